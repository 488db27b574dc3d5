/-! MEMORY: addresses, what stands at each, its numbers and its references -/
abbrev Tg : Type := (Nat × Nat) ⊕ Nat
abbrev MK : Type := Nat → Option Tg
abbrev MR : Type := Nat → Nat → Int32 → Option Nat
abbrev MI : Type := Nat → Nat → Int32
abbrev Ev : Type := va_G × (Nat → ClassId) × Nat × Nat × Nat × (Nat → Int32)
abbrev ix (x : Int32) : Nat := x.toNatClampNeg
def upI (I : MI) (a k : Nat) (x : Int32) : MI := fun b j => if b = a ∧ j = k then x else I b j
def upR (R : MR) (a k : Nat) (v : Nat) : MR := fun b j => if b = a ∧ j = k then (fun _ => some v) else R b j
def upK (K : MK) (a : Nat) (t : Tg) : MK := fun b => if b = a then some t else K b
def clI (I : MI) (a : Nat) : MI := fun b => if b = a then (fun _ => 0) else I b
def clR (R : MR) (a : Nat) : MR := fun b => if b = a then (fun _ _ => none) else R b
def cpI (I : MI) (a b : Nat) (sp dp n : Nat) : MI := fun q => if q = b then va_cpy (I a) (I b) sp dp n else I q
theorem upI_at (I : MI) (a k : Nat) (x : Int32) : upI I a k x a = fun j => if j = k then x else I a j := by funext j; simp [upI]
theorem upI_ne (I : MI) {a b : Nat} (k : Nat) (x : Int32) (h : b ≠ a) : upI I a k x b = I b := by funext j; simp [upI, h]
theorem upR_at (R : MR) (a k v : Nat) : upR R a k v a = fun j => if j = k then (fun _ => some v) else R a j := by funext j; simp [upR]
theorem upR_ne (R : MR) {a b : Nat} (k v : Nat) (h : b ≠ a) : upR R a k v b = R b := by funext j; simp [upR, h]
theorem ex_eq {α : Type} (x : α) : ∃ y : α, y = x := ⟨x, rfl⟩
/-- what an object of a kind holds: its references by r, its numbers by i -/
def fl : Nat → (Nat → Int32 → Option Nat) → (Nat → Int32) → List Value
  | 0, r, i => [va_rf (r 0 (i 0)), va_rf (r 1 (i 1)), va_rf (r 2 (i 2)), va_rf (r 3 (i 3)), va_rf (r 4 (i 4)), .int (i 5), .int (i 6), .int (i 7), .int (i 8), .int (i 9), .int (i 10), .int (i 11), .int (i 12), .int (i 13), .int (i 14)]
  | 1, r, i => [va_rf (r 0 (i 0)), .int (i 1)]
  | 2, r, i => [va_rf (r 0 (i 0)), .int (i 1), .int (i 2), .int (i 3), .int (i 4), .int (i 5), .int (i 6), .int (i 7)]
  | 3, r, i => [.int (i 0), .int (i 1), .int (i 2), .int (i 3), .int (i 4), .int (i 5), .int (i 6), .int (i 7), .int (i 8), .int (i 9), .int (i 10)]
  | 4, r, i => [va_rf (r 0 (i 0)), .int (i 1), va_rf (r 2 (i 2)), .int (i 3), .int (i 4)]
  | 5, r, i => [va_rf (r 0 (i 0)), va_rf (r 1 (i 1)), va_rf (r 2 (i 2))]
  | 6, r, i => [va_rf (r 0 (i 0)), va_rf (r 1 (i 1)), va_rf (r 2 (i 2)), .int (i 3), va_rf (r 4 (i 4)), .int (i 5), va_rf (r 6 (i 6))]
  | 7, r, i => [.int (i 0)]
  | _, _, _ => []
theorem fl_r_0_0 (r : Nat → Int32 → Option Nat) (i : Nat → Int32) (v : Nat) : (fl 0 r i).set 0 (.ref v) = fl 0 (fun j => if j = 0 then (fun _ => some v) else r j) i := rfl
theorem fl_r_0_1 (r : Nat → Int32 → Option Nat) (i : Nat → Int32) (v : Nat) : (fl 0 r i).set 1 (.ref v) = fl 0 (fun j => if j = 1 then (fun _ => some v) else r j) i := rfl
theorem fl_r_0_2 (r : Nat → Int32 → Option Nat) (i : Nat → Int32) (v : Nat) : (fl 0 r i).set 2 (.ref v) = fl 0 (fun j => if j = 2 then (fun _ => some v) else r j) i := rfl
theorem fl_r_0_3 (r : Nat → Int32 → Option Nat) (i : Nat → Int32) (v : Nat) : (fl 0 r i).set 3 (.ref v) = fl 0 (fun j => if j = 3 then (fun _ => some v) else r j) i := rfl
theorem fl_r_0_4 (r : Nat → Int32 → Option Nat) (i : Nat → Int32) (v : Nat) : (fl 0 r i).set 4 (.ref v) = fl 0 (fun j => if j = 4 then (fun _ => some v) else r j) i := rfl
theorem fl_i_0_5 (r : Nat → Int32 → Option Nat) (i : Nat → Int32) (x : Int32) : (fl 0 r i).set 5 (.int x) = fl 0 r (fun j => if j = 5 then x else i j) := rfl
theorem fl_i_0_6 (r : Nat → Int32 → Option Nat) (i : Nat → Int32) (x : Int32) : (fl 0 r i).set 6 (.int x) = fl 0 r (fun j => if j = 6 then x else i j) := rfl
theorem fl_i_0_7 (r : Nat → Int32 → Option Nat) (i : Nat → Int32) (x : Int32) : (fl 0 r i).set 7 (.int x) = fl 0 r (fun j => if j = 7 then x else i j) := rfl
theorem fl_i_0_8 (r : Nat → Int32 → Option Nat) (i : Nat → Int32) (x : Int32) : (fl 0 r i).set 8 (.int x) = fl 0 r (fun j => if j = 8 then x else i j) := rfl
theorem fl_i_0_9 (r : Nat → Int32 → Option Nat) (i : Nat → Int32) (x : Int32) : (fl 0 r i).set 9 (.int x) = fl 0 r (fun j => if j = 9 then x else i j) := rfl
theorem fl_i_0_10 (r : Nat → Int32 → Option Nat) (i : Nat → Int32) (x : Int32) : (fl 0 r i).set 10 (.int x) = fl 0 r (fun j => if j = 10 then x else i j) := rfl
theorem fl_i_0_11 (r : Nat → Int32 → Option Nat) (i : Nat → Int32) (x : Int32) : (fl 0 r i).set 11 (.int x) = fl 0 r (fun j => if j = 11 then x else i j) := rfl
theorem fl_i_0_12 (r : Nat → Int32 → Option Nat) (i : Nat → Int32) (x : Int32) : (fl 0 r i).set 12 (.int x) = fl 0 r (fun j => if j = 12 then x else i j) := rfl
theorem fl_i_0_13 (r : Nat → Int32 → Option Nat) (i : Nat → Int32) (x : Int32) : (fl 0 r i).set 13 (.int x) = fl 0 r (fun j => if j = 13 then x else i j) := rfl
theorem fl_i_0_14 (r : Nat → Int32 → Option Nat) (i : Nat → Int32) (x : Int32) : (fl 0 r i).set 14 (.int x) = fl 0 r (fun j => if j = 14 then x else i j) := rfl
theorem fl_r_1_0 (r : Nat → Int32 → Option Nat) (i : Nat → Int32) (v : Nat) : (fl 1 r i).set 0 (.ref v) = fl 1 (fun j => if j = 0 then (fun _ => some v) else r j) i := rfl
theorem fl_i_1_1 (r : Nat → Int32 → Option Nat) (i : Nat → Int32) (x : Int32) : (fl 1 r i).set 1 (.int x) = fl 1 r (fun j => if j = 1 then x else i j) := rfl
theorem fl_r_2_0 (r : Nat → Int32 → Option Nat) (i : Nat → Int32) (v : Nat) : (fl 2 r i).set 0 (.ref v) = fl 2 (fun j => if j = 0 then (fun _ => some v) else r j) i := rfl
theorem fl_i_2_1 (r : Nat → Int32 → Option Nat) (i : Nat → Int32) (x : Int32) : (fl 2 r i).set 1 (.int x) = fl 2 r (fun j => if j = 1 then x else i j) := rfl
theorem fl_i_2_2 (r : Nat → Int32 → Option Nat) (i : Nat → Int32) (x : Int32) : (fl 2 r i).set 2 (.int x) = fl 2 r (fun j => if j = 2 then x else i j) := rfl
theorem fl_i_2_3 (r : Nat → Int32 → Option Nat) (i : Nat → Int32) (x : Int32) : (fl 2 r i).set 3 (.int x) = fl 2 r (fun j => if j = 3 then x else i j) := rfl
theorem fl_i_2_4 (r : Nat → Int32 → Option Nat) (i : Nat → Int32) (x : Int32) : (fl 2 r i).set 4 (.int x) = fl 2 r (fun j => if j = 4 then x else i j) := rfl
theorem fl_i_2_5 (r : Nat → Int32 → Option Nat) (i : Nat → Int32) (x : Int32) : (fl 2 r i).set 5 (.int x) = fl 2 r (fun j => if j = 5 then x else i j) := rfl
theorem fl_i_2_6 (r : Nat → Int32 → Option Nat) (i : Nat → Int32) (x : Int32) : (fl 2 r i).set 6 (.int x) = fl 2 r (fun j => if j = 6 then x else i j) := rfl
theorem fl_i_2_7 (r : Nat → Int32 → Option Nat) (i : Nat → Int32) (x : Int32) : (fl 2 r i).set 7 (.int x) = fl 2 r (fun j => if j = 7 then x else i j) := rfl
theorem fl_i_3_0 (r : Nat → Int32 → Option Nat) (i : Nat → Int32) (x : Int32) : (fl 3 r i).set 0 (.int x) = fl 3 r (fun j => if j = 0 then x else i j) := rfl
theorem fl_i_3_1 (r : Nat → Int32 → Option Nat) (i : Nat → Int32) (x : Int32) : (fl 3 r i).set 1 (.int x) = fl 3 r (fun j => if j = 1 then x else i j) := rfl
theorem fl_i_3_2 (r : Nat → Int32 → Option Nat) (i : Nat → Int32) (x : Int32) : (fl 3 r i).set 2 (.int x) = fl 3 r (fun j => if j = 2 then x else i j) := rfl
theorem fl_i_3_3 (r : Nat → Int32 → Option Nat) (i : Nat → Int32) (x : Int32) : (fl 3 r i).set 3 (.int x) = fl 3 r (fun j => if j = 3 then x else i j) := rfl
theorem fl_i_3_4 (r : Nat → Int32 → Option Nat) (i : Nat → Int32) (x : Int32) : (fl 3 r i).set 4 (.int x) = fl 3 r (fun j => if j = 4 then x else i j) := rfl
theorem fl_i_3_5 (r : Nat → Int32 → Option Nat) (i : Nat → Int32) (x : Int32) : (fl 3 r i).set 5 (.int x) = fl 3 r (fun j => if j = 5 then x else i j) := rfl
theorem fl_i_3_6 (r : Nat → Int32 → Option Nat) (i : Nat → Int32) (x : Int32) : (fl 3 r i).set 6 (.int x) = fl 3 r (fun j => if j = 6 then x else i j) := rfl
theorem fl_i_3_7 (r : Nat → Int32 → Option Nat) (i : Nat → Int32) (x : Int32) : (fl 3 r i).set 7 (.int x) = fl 3 r (fun j => if j = 7 then x else i j) := rfl
theorem fl_i_3_8 (r : Nat → Int32 → Option Nat) (i : Nat → Int32) (x : Int32) : (fl 3 r i).set 8 (.int x) = fl 3 r (fun j => if j = 8 then x else i j) := rfl
theorem fl_i_3_9 (r : Nat → Int32 → Option Nat) (i : Nat → Int32) (x : Int32) : (fl 3 r i).set 9 (.int x) = fl 3 r (fun j => if j = 9 then x else i j) := rfl
theorem fl_i_3_10 (r : Nat → Int32 → Option Nat) (i : Nat → Int32) (x : Int32) : (fl 3 r i).set 10 (.int x) = fl 3 r (fun j => if j = 10 then x else i j) := rfl
theorem fl_r_4_0 (r : Nat → Int32 → Option Nat) (i : Nat → Int32) (v : Nat) : (fl 4 r i).set 0 (.ref v) = fl 4 (fun j => if j = 0 then (fun _ => some v) else r j) i := rfl
theorem fl_i_4_1 (r : Nat → Int32 → Option Nat) (i : Nat → Int32) (x : Int32) : (fl 4 r i).set 1 (.int x) = fl 4 r (fun j => if j = 1 then x else i j) := rfl
theorem fl_r_4_2 (r : Nat → Int32 → Option Nat) (i : Nat → Int32) (v : Nat) : (fl 4 r i).set 2 (.ref v) = fl 4 (fun j => if j = 2 then (fun _ => some v) else r j) i := rfl
theorem fl_i_4_3 (r : Nat → Int32 → Option Nat) (i : Nat → Int32) (x : Int32) : (fl 4 r i).set 3 (.int x) = fl 4 r (fun j => if j = 3 then x else i j) := rfl
theorem fl_i_4_4 (r : Nat → Int32 → Option Nat) (i : Nat → Int32) (x : Int32) : (fl 4 r i).set 4 (.int x) = fl 4 r (fun j => if j = 4 then x else i j) := rfl
theorem fl_r_5_0 (r : Nat → Int32 → Option Nat) (i : Nat → Int32) (v : Nat) : (fl 5 r i).set 0 (.ref v) = fl 5 (fun j => if j = 0 then (fun _ => some v) else r j) i := rfl
theorem fl_r_5_1 (r : Nat → Int32 → Option Nat) (i : Nat → Int32) (v : Nat) : (fl 5 r i).set 1 (.ref v) = fl 5 (fun j => if j = 1 then (fun _ => some v) else r j) i := rfl
theorem fl_r_5_2 (r : Nat → Int32 → Option Nat) (i : Nat → Int32) (v : Nat) : (fl 5 r i).set 2 (.ref v) = fl 5 (fun j => if j = 2 then (fun _ => some v) else r j) i := rfl
theorem fl_r_6_0 (r : Nat → Int32 → Option Nat) (i : Nat → Int32) (v : Nat) : (fl 6 r i).set 0 (.ref v) = fl 6 (fun j => if j = 0 then (fun _ => some v) else r j) i := rfl
theorem fl_r_6_1 (r : Nat → Int32 → Option Nat) (i : Nat → Int32) (v : Nat) : (fl 6 r i).set 1 (.ref v) = fl 6 (fun j => if j = 1 then (fun _ => some v) else r j) i := rfl
theorem fl_r_6_2 (r : Nat → Int32 → Option Nat) (i : Nat → Int32) (v : Nat) : (fl 6 r i).set 2 (.ref v) = fl 6 (fun j => if j = 2 then (fun _ => some v) else r j) i := rfl
theorem fl_i_6_3 (r : Nat → Int32 → Option Nat) (i : Nat → Int32) (x : Int32) : (fl 6 r i).set 3 (.int x) = fl 6 r (fun j => if j = 3 then x else i j) := rfl
theorem fl_r_6_4 (r : Nat → Int32 → Option Nat) (i : Nat → Int32) (v : Nat) : (fl 6 r i).set 4 (.ref v) = fl 6 (fun j => if j = 4 then (fun _ => some v) else r j) i := rfl
theorem fl_i_6_5 (r : Nat → Int32 → Option Nat) (i : Nat → Int32) (x : Int32) : (fl 6 r i).set 5 (.int x) = fl 6 r (fun j => if j = 5 then x else i j) := rfl
theorem fl_r_6_6 (r : Nat → Int32 → Option Nat) (i : Nat → Int32) (v : Nat) : (fl 6 r i).set 6 (.ref v) = fl 6 (fun j => if j = 6 then (fun _ => some v) else r j) i := rfl
theorem fl_i_7_0 (r : Nat → Int32 → Option Nat) (i : Nat → Int32) (x : Int32) : (fl 7 r i).set 0 (.int x) = fl 7 r (fun j => if j = 0 then x else i j) := rfl
/-- the kinds of arrays -/
def tyA : Nat → FieldType
  | 0 => .int
  | 1 => .char
  | 2 => .object "TagBus$Master"
  | 3 => .object "TagBus$Target"
  | 4 => .object "TagBus$Question"
  | _ => .object "TagBus$Bus"
def tyL (A : Nat → ClassId) : List (ClassId × FieldType) := [(A 0, tyA 0), (A 1, tyA 1), (A 2, tyA 2), (A 3, tyA 3), (A 4, tyA 4), (A 5, tyA 5)]
def isI (t : Nat) : Bool := t == 0 || t == 1
def arC (A : Nat → ClassId) (t n : Nat) (r : Nat → Int32 → Option Nat) (i : Nat → Int32) : Cell := if isI t = true then arrV (A t) n (fun j => .int (i j)) else arrV (A t) n (fun j => va_rf (r j (i j)))
theorem arC_i (A : Nat → ClassId) {t : Nat} (h : isI t = true) (n : Nat) (r : Nat → Int32 → Option Nat) (i : Nat → Int32) : arC A t n r i = arrV (A t) n (fun j => .int (i j)) := by simp [arC, h]
theorem arC_r (A : Nat → ClassId) {t : Nat} (h : isI t = false) (n : Nat) (r : Nat → Int32 → Option Nat) (i : Nat → Int32) : arC A t n r i = arrV (A t) n (fun j => va_rf (r j (i j))) := by simp [arC, h]
def atE (E : Ev) (t : Tg) (r : Nat → Int32 → Option Nat) (i : Nat → Int32) (a : Nat) (H : Heap) : Prop := match t with
  | .inl q => H[a]? = some (arC E.2.1 q.1 q.2 r i)
  | .inr k => ∃ q : vw_C, vwCl[k]? = some q ∧ t_OB a (E.1.1 k) q.2.2 (E.1.2 k) H (vp_V (fl k r i))
theorem atE.kept {E : Ev} {t : Tg} {r : Nat → Int32 → Option Nat} {i : Nat → Int32} {a : Nat} {H H1 : Heap} (h : atE E t r i a H) (hq : H1[a]? = H[a]?) : atE E t r i a H1 := by
  cases t with
  | inl q => exact hq.trans h
  | inr k =>
    obtain ⟨q, h1, h2⟩ := h
    exact ⟨q, h1, h2.kept hq⟩
theorem atE.lt {E : Ev} {t : Tg} {r : Nat → Int32 → Option Nat} {i : Nat → Int32} {a : Nat} {H : Heap} (h : atE E t r i a H) : a < H.size := by
  cases t with
  | inl q => exact (Array.getElem?_eq_some_iff.mp h).1
  | inr k =>
    obtain ⟨q, h1, cell, h2, -⟩ := h
    exact (Array.getElem?_eq_some_iff.mp h2).1
/-- the heap holds the memory -/
def Rep (E : Ev) (K : MK) (R : MR) (I : MI) (n : Nat) (H : Heap) : Prop := H.size = n ∧ ∀ (a : Nat) (t : Tg), K a = some t → E.2.2.1 ≤ a ∧ atE E t (R a) (I a) a H
def AA (E : Ev) : Nat → Prop := fun q => E.2.2.1 ≤ q
def stN : Nat → String
  | 0 => "LEAST_SETTING"
  | 1 => "MOST_SETTING"
  | 2 => "LEAST_OF_TARGET"
  | _ => "MOST_OF_TARGET"
def stL : Nat → List Int32
  | 0 => [1, 0, 1]
  | 1 => [8, 2, 50]
  | 2 => [1, 1, 0]
  | _ => [4, 9, 1]
def stV (k j : Nat) : Value := .int ((stL k).getD j 0)
/-- what the tables say, and the static arrays hold, in a state -/
def Kx (E : Ev) (U : State) : Prop := va_K E.1 vwCl (tyL E.2.1) U ∧ (∀ q ∈ nestM, va_Nw (.methodLinkNest q.1 q.2.1 q.2.2.1 q.2.2.2) U) ∧ (∀ C ∈ ["TagBus$Master", "TagBus$Target", "TagBus$Question", "TagBus$Bus"], va_AO C U) ∧ E.2.2.1 ≤ U.heap.size ∧
  (va_X E.2.2.2.1 E.2.2.2.2.1 E.2.2.2.2.2 U U.heap ∧ E.2.2.2.1 < E.2.2.1) ∧ ∀ k, k < 4 → ∃ t : Nat, va_Z "TagBus" (stN k) "[I" (.ref t) (AA E) U U.heap ∧ va_T .int t 3 (stV k) (AA E) U U.heap
theorem Kx.go {E : Ev} {s U : State} {H : Heap} {locs : List Loc} (h : Kx E s) (hW : s.WarmedH U.vm) (hH : U.heap = H) (hS : va_S (AA E) s.heap H locs) : Kx E U := by
  subst hH
  obtain ⟨h1, h2, h3, h4, ⟨hx, hb⟩, h5⟩ := h
  refine ⟨va_K.moved hW.alike h1, fun q hq => va_Nw.warmM hW (h2 q hq), fun C hC => va_AO.moved hW.alike (h3 C hC), Nat.le_trans h4 hS.1, ⟨(va_X.moved hW.alike hx).kept (hS.2.1 _ (by omega) (fun z => by unfold AA at z; omega)), hb⟩, fun k hk => ?_⟩
  obtain ⟨t, g1, g2⟩ := h5 k hk
  exact ⟨t, (va_Z.moved hW.alike g1).kept hS.2.1, (va_T.moved hW.alike g2).kept hS.2.1⟩
theorem Kx.same {E : Ev} {s U : State} (hv : s.vm = U.vm) (hH : s.heap = U.heap) (h : Kx E s) : Kx E U := by
  obtain ⟨h1, h2, h3, h4, ⟨hx, hb⟩, h5⟩ := h
  have hal : s.vm.Alike U.vm := by rw [hv]; exact Vm.Alike.refl _
  refine ⟨va_K.moved hal h1, fun q hq => va_Nw.same rfl hv (h2 q hq), fun C hC => va_AO.moved hal (h3 C hC), by rw [← hH]; exact h4, ⟨by rw [← hH]; exact va_X.moved hal hx, hb⟩, fun k hk => ?_⟩
  obtain ⟨t, g1, g2⟩ := h5 k hk
  exact ⟨t, by rw [← hH]; exact va_Z.moved hal g1, by rw [← hH]; exact va_T.moved hal g2⟩
/-- a method's end -/
def QcM (E : Ev) (Q : Option Value → MK → MR → MI → Nat → Prop) : Array Value → State → Outcome → State → Prop := fun _ st o t => (∃ (r : Option Value) (K' : MK) (R' : MR) (I' : MI) (n' : Nat), o = .returned r ∧ Rep E K' R' I' n' t.heap ∧ Q r K' R' I' n') ∧ va_F (AA E) st t
def PcM (E : Ev) (args : List Value) (K : MK) (R : MR) (I : MI) (n : Nat) : Array Value → State → Prop := va_Pc args (fun U => Rep E K R I n U.heap ∧ Kx E U)
abbrev rmM (fr lo mc ms : Nat) : Room := { frames := fr, cells := mc, slots := ms, locals := lo }
/-- a method's contract -/
def MM (E : Ev) (l : Launch) (y : MethodName) (b : ByteArray) (nL : Nat) (ret : Option FieldType) (fr lo mc ms : Nat) (args : List Value) (K : MK) (R : MR) (I : MI) (n : Nat) (Q : Option Value → MK → MR → MI → Nat → Prop) : Prop :=
  Met l y (.code y b nL ret :: Gt) (rmM fr lo mc ms) (PcM E args K R I n) (QcM E Q) mc ms (AA E)
theorem PcM.blind {E : Ev} {args : List Value} {K : MK} {R : MR} {I : MI} {n : Nat} : FrameBlind (PcM E args K R I n) := fun a U g mk q => by
  obtain ⟨q0, q1, q2⟩ := q
  exact ⟨q0, q1, Kx.same (s := U) (U := U.calling g mk a) rfl rfl q2⟩
/-- the words of a method in its body -/
def Cx (E : Ev) (p : Program) (s : State) (m : MethodId) (meth : Method) (c : Code) (cc : ByteArray) (nL : Nat) (own : String) (ret : Option FieldType) (args : Array Value) : Prop := p.tables.exec = Jvm.exec ∧ c.code = cc ∧ c.maxLocals = nL ∧ s.vm.findClass own = some m.cls ∧ (∀ w ∈ Gt, w.before args s = true) ∧ Kx E s ∧ meth.locks = false ∧ meth.sig.returnType = ret
theorem MM.of {E : Ev} {l : Launch} {y : MethodName} {b : ByteArray} {nL : Nat} {ret : Option FieldType} {fr lo mc ms : Nat} {args : List Value} {K : MK} {R : MR} {I : MI} {n : Nat} {Q : Option Value → MK → MR → MI → Nat → Prop} (hy : plainName y.cls = true) (own : String) (hown : y.cls = own) (hsl : (lg_sl args).length ≤ nL)
    (body : ∀ (p : Program) (e : Env) (s : State) (m : MethodId) (av : Array Value) (below : List Frame) (meth : Method) (c : Code) (ls : Array Slot), Cx E p s m meth c b nL own ret av → (y.name = "<init>" → meth.name = "<init>") → Rep E K R I n s.heap → lv_has ls nL (lv_args 0 args) →
      W p l e (rmM fr lo mc ms) s m av below meth c s.heap [] 0 0 (MQ below (QcM E Q) av s mc ms (AA E)) (F0 m 0 ls [])) : MM E l y b nL ret fr lo mc ms args K R I n Q := by
  refine Met.ofW (cc := b) (maxL := nL) (ret := ret) hy rfl ?_
  intro p e s m av below meth c s₁ B hml hv
  obtain ⟨rfl, hR, hK⟩ := hv
  have hts := atoms_spec (ws := .code y b nL ret :: Gt) B.pre
  have hl := lv_entry args hsl
  rw [lg_entry_eq]
  refine body p e s m args.toArray below meth c _ ⟨B.exec, B.bytes, hml, by rw [← hown]; exact findClass_of_methodNamed B.named, fun w hw => hts w (List.mem_cons_of_mem _ hw), hK, B.notSynchronized, B.returns⟩ (fun hn => by rw [(name_of_methodNamed B.named B.method).1]; exact hn) hR hl
/-! ROWS -/
section MROWS
variable {p : Program} {l : Launch} {e : Env} {rm : Room} {s : State} {m : MethodId} {args : Array Value} {below : List Frame} {meth : Method} {c : Code} {H : Heap} {locs : List Loc} {cells slots : Nat} {Qw : State → Prop}
variable {cc : ByteArray} {nL pc : Nat} {ls : Array Slot} {rest st0 : List Value} {E : Ev} {K : MK} {R : MR} {I : MI} {n a : Nat} {own : String} {ret : Option FieldType}
theorem v_iret {Q : Option Value → MK → MR → MI → Nat → Prop} {ty : FieldType} (C : Cx E p s m meth c cc nL own ret args) (hr : ret = some ty) {v : Int32} (hn : narrow ty (.int v) = .int v) (hR : Rep E K R I n H) (hS : va_S (AA E) s.heap H locs) (hQ : Q (some (.int v)) K R I n) (hdg : decode cc pc = .ok (.ireturn, 1)) :
    W p l e rm s m args below meth c H locs cells slots (MQ below (QcM E Q) args s cells slots (AA E)) (F0 m pc ls [.int v]) := by
  obtain ⟨hx, hb, hml, hown, hts, hK, hlocks, hret⟩ := C
  exact W.zret (ty := ty) hx hb (hret.trans hr) hn (fun t ht hW => ⟨⟨_, K, R, I, n, rfl, by rw [ht]; exact hR, hQ⟩, hS.F ht⟩) hS.2.2 hdg
theorem v_vret {Q : Option Value → MK → MR → MI → Nat → Prop} (C : Cx E p s m meth c cc nL own ret args) (hr : ret = none) (hR : Rep E K R I n H) (hS : va_S (AA E) s.heap H locs) (hQ : Q none K R I n) (hdg : decode cc pc = .ok (.return_, 1)) :
    W p l e rm s m args below meth c H locs cells slots (MQ below (QcM E Q) args s cells slots (AA E)) (F0 m pc ls []) := by
  obtain ⟨hx, hb, hml, hown, hts, hK, hlocks, hret⟩ := C
  exact W.vret hx hb (hret.trans hr) (fun t ht hW => ⟨⟨_, K, R, I, n, rfl, by rw [ht]; exact hR, hQ⟩, hS.F ht⟩) hS.2.2 hdg
theorem v_aret {Q : Option Value → MK → MR → MI → Nat → Prop} {C0 : String} (C : Cx E p s m meth c cc nL own ret args) (hr : ret = some (.object C0)) {o : Option Nat} (hR : Rep E K R I n H) (hS : va_S (AA E) s.heap H locs) (hQ : Q (some (va_rf o)) K R I n) (hdg : decode cc pc = .ok (.areturn, 1)) :
    W p l e rm s m args below meth c H locs cells slots (MQ below (QcM E Q) args s cells slots (AA E)) (F0 m pc ls [va_rf o]) := by
  obtain ⟨hx, hb, hml, hown, hts, hK, hlocks, hret⟩ := C
  exact W.aret (rt := .object C0) hx hb (hret.trans hr) (Or.inl ⟨_, rfl⟩) (by cases o <;> simp [va_rf]) (fun t ht hW => ⟨⟨_, K, R, I, n, rfl, by rw [ht]; exact hR, hQ⟩, hS.F ht⟩) hS.2.2 hdg
/-- references that may be null -/
theorem v_aload_n (hexec : p.tables.exec = Jvm.exec) (hb : c.code = cc) {k : Fin 4} {i : Nat} {o : Option Nat} (hdg : decode cc pc = .ok (.aload_n k, 1)) (hi : (k : Nat) = i) (hl : ls[i]? = some (.val (va_rf o)))
    (kk : W p l e rm s m args below meth c H locs cells slots Qw (F0 m (pc + 1) ls (va_rf o :: rest))) : W p l e rm s m args below meth c H locs cells slots Qw (F0 m pc ls (rest)) := by
  cases o with
  | none => exact lv_aload_nN hexec hb hdg hi hl kk
  | some x => exact lv_aload_n hexec hb hdg hi hl kk
theorem v_aload (hexec : p.tables.exec = Jvm.exec) (hb : c.code = cc) {i : Nat} {o : Option Nat} (hdg : decode cc pc = .ok (.aload i, 2)) (hl : ls[i]? = some (.val (va_rf o)))
    (kk : W p l e rm s m args below meth c H locs cells slots Qw (F0 m (pc + 2) ls (va_rf o :: rest))) : W p l e rm s m args below meth c H locs cells slots Qw (F0 m pc ls (rest)) := by
  cases o with
  | none => exact lv_aloadN hexec hb hdg hl kk
  | some x => exact lv_aload hexec hb hdg hl kk
theorem v_ifnull (hexec : p.tables.exec = Jvm.exec) (hb : c.code = cc) {o : Option Nat} {off : Int} {tgt : Nat} (hdg : decode cc pc = .ok (.ifnull off, 3)) (ht : (pc : Int) + off = (tgt : Int))
    (k1 : o = none → W p l e rm s m args below meth c H locs cells slots Qw (F0 m tgt ls rest)) (k2 : ∀ a, o = some a → W p l e rm s m args below meth c H locs cells slots Qw (F0 m (pc + 3) ls rest)) : W p l e rm s m args below meth c H locs cells slots Qw (F0 m pc ls (va_rf o :: rest)) := by
  cases o with
  | none => exact lv_ifnullN hexec hb hdg ht (k1 rfl)
  | some x => exact lv_ifnull hexec hb hdg (k2 x rfl)
theorem v_ifnonnull (hexec : p.tables.exec = Jvm.exec) (hb : c.code = cc) {o : Option Nat} {off : Int} {tgt : Nat} (hdg : decode cc pc = .ok (.ifnonnull off, 3)) (ht : (pc : Int) + off = (tgt : Int))
    (k1 : o = none → W p l e rm s m args below meth c H locs cells slots Qw (F0 m (pc + 3) ls rest)) (k2 : ∀ a, o = some a → W p l e rm s m args below meth c H locs cells slots Qw (F0 m tgt ls rest)) : W p l e rm s m args below meth c H locs cells slots Qw (F0 m pc ls (va_rf o :: rest)) := by
  cases o with
  | none => exact lv_ifnonnullN hexec hb hdg (k1 rfl)
  | some x => exact lv_ifnonnull hexec hb hdg ht (k2 x rfl)
/-- fields -/
theorem Rep.P {t : Nat} (hR : Rep E K R I n H) (hK : K a = some (.inr t)) : va_P E.1 vwCl [(a, .inr (t, fl t (R a) (I a)))] H := by
  intro k q hq
  match k, hq with
  | 0, hq => cases hq; exact (hR.2 a _ hK).2
  | k + 1, hq => simp at hq
theorem v_get {C0 ref : String} {T : u_T} {N ci index : Nat} (C : Cx E p s m meth c cc nL own ret args) (hR : Rep E K R I n H) (k : Nat) (hlink : Cond.fieldLink own index ref (T k).2.1 (T k).2.2.1 ∈ Gt) (hc : vwCl[ci]? = some (C0, T, N)) (hin : ∀ w ∈ u_ws C0 T N, w ∈ Gt) (hk : k < N) (href : (T k).1 = ref)
    (hKa : K a = some (.inr ci)) {v : Value} (hv : (fl ci (R a) (I a))[k]? = some v) (hdg : decode cc pc = .ok (.getfield index, 3))
    (kk : W p l e rm s m args below meth c H locs cells slots Qw (F0 m (pc + 3) ls (v :: rest))) : W p l e rm s m args below meth c H locs cells slots Qw (F0 m pc ls (.ref a :: rest)) := by
  obtain ⟨hx, hb, hml, hown, hts, hK, hlocks, hret⟩ := C
  exact va_get (D := E.1) hx hb hts hin hown hK.1 (hR.P hKa) 0 rfl hc k hk (hts _ hlink) (fun x hx => by rw [← href]; exact hx) hv hdg kk
theorem Rep.putO {ci : Nat} {H1 : Heap} {I1 : MI} {R1 : MR} {cell : Cell} {q : vw_C} (hR : Rep E K R I n H) (hKa : K a = some (.inr ci)) (hc : vwCl[ci]? = some q) (h1 : H1[a]? = some cell) (h2 : cell.cls = E.1.1 ci) (h3 : cell.vm = .none) (h4 : ∀ j, j < q.2.2 → cell.slots[E.1.2 ci j]? = some (vp_V (fl ci (R1 a) (I1 a)) j)) (hsz : H1.size = H.size) (hoq : ∀ q : Nat, q ≠ a → H1[q]? = H[q]?) (hI : ∀ b, b ≠ a → I1 b = I b) (hRR : ∀ b, b ≠ a → R1 b = R b) : Rep E K R1 I1 n H1 := by
  refine ⟨by rw [hsz]; exact hR.1, fun b t hb => ?_⟩
  obtain ⟨g1, g2⟩ := hR.2 b t hb
  by_cases h : b = a
  · subst h
    cases hKa.symm.trans hb
    exact ⟨g1, q, hc, cell, h1, h2, h3, h4⟩
  · refine ⟨g1, ?_⟩
    rw [hI b h, hRR b h]
    exact g2.kept (hoq b h)
theorem v_put {C0 ref : String} {T : u_T} {N ci index : Nat} (C : Cx E p s m meth c cc nL own ret args) (hR : Rep E K R I n H) (hS0 : va_S (AA E) s.heap H locs) (k : Nat) (hlink : Cond.fieldLink own index ref (T k).2.1 (T k).2.2.1 ∈ Gt) (hc : vwCl[ci]? = some (C0, T, N)) (hin : ∀ w ∈ u_ws C0 T N, w ∈ Gt) (ty0 : Nat → FieldType) (hty : ∀ k, k < N → parseFieldDescriptor (T k).2.2.1 = some (ty0 k)) (hnm : ∀ a, a < N → ∀ b, b < N → a ≠ b → (T a).2.1 ≠ (T b).2.1) (hk : k < N) (href : (T k).1 = ref)
    (hKa : K a = some (.inr ci)) (hfin : (T k).2.2.2 = false) {ty : FieldType} {x : Int32} (hd : parseFieldDescriptor (T k).2.2.1 = some ty) (hn : narrow ty (.int x) = .int x) (hfit : fits ty (.int x) = true) (hset : (fl ci (R a) (I a)).set k (.int x) = fl ci (R a) (fun j => if j = k then x else I a j)) (hl : k < (fl ci (R a) (I a)).length) {I1 : MI} (hI : I1 = upI I a k x) (hdg : decode cc pc = .ok (.putfield index, 3))
    (kk : ∀ (H1 : Heap) (locs1 : List Loc), Rep E K R I1 n H1 → va_S (AA E) s.heap H1 locs1 → W p l e rm s m args below meth c H1 locs1 cells slots Qw (F0 m (pc + 3) ls rest)) : W p l e rm s m args below meth c H locs cells slots Qw (F0 m pc ls (.int x :: .ref a :: rest)) := by
  obtain ⟨hx, hb, hml, hown, hts, hK, hlocks, hret⟩ := C
  have hap := va_apart (own := own) hts hin ty0 hty hnm hK.1 hc
  obtain ⟨g1, r, h1, cell, q1, q2, q3, q4⟩ := hR.2 a _ hKa
  have hr : r = (C0, T, N) := Option.some.inj (h1.symm.trans hc)
  subst hr
  obtain ⟨hS, hfc, kC, hkC, hkind⟩ := hK.1.1 ci _ hc
  obtain ⟨cf, kf, fi, f, hi, hsl⟩ := hS k hk
  have hlay := hts _ (hin _ (u_in_lay hk))
  unfold u_lay at hlay
  rw [if_neg (by rw [hfin]; decide)] at hlay
  have hst := (u_facts hfc hkC (u_lays hts hin hk) hi).1
  have h6 := u_store hfc hkC hkind hlay hi hd hn hfit
  refine W.putK hx hb (f := f) ⟨hown, hts _ hlink, ⟨_, _, _, by rw [← href]; exact hi⟩, hst⟩ (by rw [q2]; exact h6) q1 q3 (by rw [hsl]; exact k2_hasslot (q4 k hk)) rfl rfl hdg fun H' e1 e2 e3 => ?_
  rw [hsl] at e1 ⊢
  subst hI
  exact kk H' _ (hR.putO hKa hc e1 q2 q3 (fun j hj => by
    rw [t_set q4 hap hk (.int x) j hj, upI_at, ← hset]
    exact congrArg some (vp_updV_set hl _ j)) e2 e3 (fun b h => upI_ne I k x h) (fun _ _ => rfl)) (hS0.put e2 e3 g1)
/-- a final field that holds a reference, in the constructor -/
theorem v_putF {C0 : String} {T : u_T} {N ci index w : Nat} (C : Cx E p s m meth c cc nL own ret args) (hR : Rep E K R I n H) (hS0 : va_S (AA E) s.heap H locs) (k : Nat) (hlink : Cond.fieldLink own index own (T k).2.1 (T k).2.2.1 ∈ Gt) (hc : vwCl[ci]? = some (C0, T, N)) (hin : ∀ w ∈ u_ws C0 T N, w ∈ Gt) (ty0 : Nat → FieldType) (hty : ∀ k, k < N → parseFieldDescriptor (T k).2.2.1 = some (ty0 k)) (hnm : ∀ a, a < N → ∀ b, b < N → a ≠ b → (T a).2.1 ≠ (T b).2.1) (hk : k < N) (href : (T k).1 = own) (hmi : meth.name = "<init>")
    (hKa : K a = some (.inr ci)) (hfin : (T k).2.2.2 = true) {ty : FieldType} (hd : parseFieldDescriptor (T k).2.2.1 = some ty) (hn : narrow ty (.ref w) = .ref w) (hfit : fits ty (.ref w) = true) (hset : (fl ci (R a) (I a)).set k (.ref w) = fl ci (fun j => if j = k then (fun _ => some w) else R a j) (I a)) (hl : k < (fl ci (R a) (I a)).length) {R1 : MR} (hI : R1 = upR R a k w) (hdg : decode cc pc = .ok (.putfield index, 3))
    (kk : ∀ (H1 : Heap) (locs1 : List Loc), Rep E K R1 I n H1 → va_S (AA E) s.heap H1 locs1 → W p l e rm s m args below meth c H1 locs1 cells slots Qw (F0 m (pc + 3) ls rest)) : W p l e rm s m args below meth c H locs cells slots Qw (F0 m pc ls (.ref w :: .ref a :: rest)) := by
  obtain ⟨hx, hb, hml, hown, hts, hK, hlocks, hret⟩ := C
  have hap := va_apart (own := own) hts hin ty0 hty hnm hK.1 hc
  obtain ⟨g1, r, h1, cell, q1, q2, q3, q4⟩ := hR.2 a _ hKa
  have hr : r = (C0, T, N) := Option.some.inj (h1.symm.trans hc)
  subst hr
  obtain ⟨hS, hfc, kC, hkC, hkind⟩ := hK.1.1 ci _ hc
  obtain ⟨cf, kf, fi, f, hi, hsl⟩ := hS k hk
  have hlay := hts _ (hin _ (u_in_lay hk))
  unfold u_lay at hlay
  rw [if_pos hfin] at hlay
  have hst := (u_facts hfc hkC (u_lays hts hin hk) hi).1
  have hcf : m.cls = cf := by
    obtain ⟨_, _, c', _, _, _, -, -, hf', -, -, -, hown2, -⟩ := Cond.laysFinal_spec hlay
    have e1 : c' = cf := by have := hi.symm.trans hf'; simp at this; exact this.1.symm
    rw [href] at hown2
    rw [← e1]; exact Option.some.inj (hown.symm.trans hown2)
  have h6 := u_fits hfc hkC hkind (Or.inr hlay) hi hd hn hfit
  refine W.putFinK hx hb hown (hts _ hlink) (by rw [← href]; exact hi) hst hcf hmi (by rw [q2]; exact h6) q1 q3 (by rw [hsl]; exact k2_hasslot (q4 k hk)) rfl rfl hdg fun H' e1 e2 e3 => ?_
  rw [hsl] at e1 ⊢
  subst hI
  exact kk H' _ (hR.putO hKa hc e1 q2 q3 (fun j hj => by
    rw [t_set q4 hap hk (.ref w) j hj, upR_at, ← hset]
    exact congrArg some (vp_updV_set hl _ j)) e2 e3 (fun _ _ => rfl) (fun b h => upR_ne R k w h)) (hS0.put e2 e3 g1)
/-- arrays -/
theorem Kx.arr (hK : Kx E s) {t : Nat} (ht : t < 6) : ArrOfT s (E.2.1 t) (tyA t) ∧ va_RA s (E.2.1 t) (tyA t) := by
  obtain ⟨⟨-, h⟩, -⟩ := hK
  exact h t (E.2.1 t, tyA t) (by match t, ht with | 0, _ => rfl | 1, _ => rfl | 2, _ => rfl | 3, _ => rfl | 4, _ => rfl | 5, _ => rfl)
theorem v_iald (C : Cx E p s m meth c cc nL own ret args) (hR : Rep E K R I n H) {N : Nat} (hKa : K a = some (.inl (0, N))) {i : Int32} (hin : vp_in i N) (hdg : decode cc pc = .ok (.iaload, 1))
    (kk : W p l e rm s m args below meth c H locs cells slots Qw (F0 m (pc + 1) ls (.int (I a (ix i)) :: rest))) : W p l e rm s m args below meth c H locs cells slots Qw (F0 m pc ls (.int i :: .ref a :: rest)) := by
  obtain ⟨hx, hb, hml, hown, hts, hK, hlocks, hret⟩ := C
  have hlt : i.toNatClampNeg < N := Nat.not_le.mp fun q => hin (Or.inr q)
  have hat : H[a]? = some (arrV (E.2.1 0) N (fun j => .int (I a j))) := (hR.2 a _ hKa).2
  exact W.iald (v := .int (I a i.toNatClampNeg)) hx hb hat ((hK.arr (t := 0) (by decide)).1 N (fun j => .int (I a j))) (fun q => by cases q) (by rw [arrV_size]; exact hin) (by rw [arrV_read _ _ hlt]) rfl rfl hdg kk
theorem v_cald (C : Cx E p s m meth c cc nL own ret args) (hR : Rep E K R I n H) {N : Nat} (hKa : K a = some (.inl (1, N))) {i : Int32} (hin : vp_in i N) (hdg : decode cc pc = .ok (.caload, 1))
    (kk : W p l e rm s m args below meth c H locs cells slots Qw (F0 m (pc + 1) ls (.int (I a (ix i)) :: rest))) : W p l e rm s m args below meth c H locs cells slots Qw (F0 m pc ls (.int i :: .ref a :: rest)) := by
  obtain ⟨hx, hb, hml, hown, hts, hK, hlocks, hret⟩ := C
  have hlt : i.toNatClampNeg < N := Nat.not_le.mp fun q => hin (Or.inr q)
  have hat : H[a]? = some (arrV (E.2.1 1) N (fun j => .int (I a j))) := (hR.2 a _ hKa).2
  exact W.cald (v := .int (I a i.toNatClampNeg)) hx hb hat ((hK.arr (t := 1) (by decide)).1 N (fun j => .int (I a j))) (fun q => by cases q) (by rw [arrV_size]; exact hin) (by rw [arrV_read _ _ hlt]) rfl rfl hdg kk
theorem v_aald (C : Cx E p s m meth c cc nL own ret args) (hR : Rep E K R I n H) {N t : Nat} (hKa : K a = some (.inl (t, N))) (ht : t < 6) (hr : isI t = false) (hty : (tyA t).isReference = true) {i : Int32} (hin : vp_in i N) {o : Option Nat} (hv : R a (ix i) (I a (ix i)) = o) (hdg : decode cc pc = .ok (.aaload, 1))
    (kk : W p l e rm s m args below meth c H locs cells slots Qw (F0 m (pc + 1) ls (va_rf o :: rest))) : W p l e rm s m args below meth c H locs cells slots Qw (F0 m pc ls (.int i :: .ref a :: rest)) := by
  obtain ⟨hx, hb, hml, hown, hts, hK, hlocks, hret⟩ := C
  have hlt : i.toNatClampNeg < N := Nat.not_le.mp fun q => hin (Or.inr q)
  have hat : H[a]? = some (arrV (E.2.1 t) N (fun j => va_rf (R a j (I a j)))) := by rw [← arC_r E.2.1 hr]; exact (hR.2 a _ hKa).2
  exact W.aald (ty := tyA t) hx hb hat ((hK.arr ht).1 N (fun j => va_rf (R a j (I a j)))) hty (fun q => by cases q) (by rw [arrV_size]; exact hin) (by rw [arrV_read _ _ hlt]; exact congrArg (fun z => some (va_rf z)) hv) rfl rfl hdg kk
theorem Rep.putA {t N : Nat} {H1 : Heap} {I1 : MI} {R1 : MR} (hR : Rep E K R I n H) (hKa : K a = some (.inl (t, N))) (h1 : H1[a]? = some (arC E.2.1 t N (R1 a) (I1 a))) (hsz : H1.size = H.size) (hoq : ∀ q : Nat, q ≠ a → H1[q]? = H[q]?) (hI : ∀ b, b ≠ a → I1 b = I b) (hRR : ∀ b, b ≠ a → R1 b = R b) : Rep E K R1 I1 n H1 := by
  refine ⟨by rw [hsz]; exact hR.1, fun b t' hb => ?_⟩
  obtain ⟨g1, g2⟩ := hR.2 b t' hb
  by_cases h : b = a
  · subst h
    cases hKa.symm.trans hb
    exact ⟨g1, h1⟩
  · refine ⟨g1, ?_⟩
    rw [hI b h, hRR b h]
    exact g2.kept (hoq b h)
theorem arr_upd (I : MI) (a k : Nat) (x : Int32) : (fun j => Value.int (upI I a k x a j)) = updV (fun j => .int (I a j)) k (.int x) := by
  funext j
  by_cases h : j = k <;> simp [upI, updV, h]
theorem v_iast (C : Cx E p s m meth c cc nL own ret args) (hR : Rep E K R I n H) (hS : va_S (AA E) s.heap H locs) {N : Nat} (hKa : K a = some (.inl (0, N))) {i x : Int32} (hin : vp_in i N) {I1 : MI} (hI : I1 = upI I a (ix i) x) (hdg : decode cc pc = .ok (.iastore, 1))
    (kk : ∀ (H1 : Heap) (locs1 : List Loc), Rep E K R I1 n H1 → va_S (AA E) s.heap H1 locs1 → W p l e rm s m args below meth c H1 locs1 cells slots Qw (F0 m (pc + 1) ls rest)) : W p l e rm s m args below meth c H locs cells slots Qw (F0 m pc ls (.int x :: .int i :: .ref a :: rest)) := by
  obtain ⟨hx, hb, hml, hown, hts, hK, hlocks, hret⟩ := C
  have hat : H[a]? = some (arrV (E.2.1 0) N (fun j => .int (I a j))) := (hR.2 a _ hKa).2
  refine W.iast hx hb hat ((hK.arr (t := 0) (by decide)).1 N (fun j => .int (I a j))) (fun q => by cases q) (by rw [arrV_size]; exact hin) rfl rfl hdg fun H1 e z oq => ?_
  subst hI
  refine kk H1 _ (hR.putA hKa ?_ z oq (fun b h => upI_ne I _ x h) (fun _ _ => rfl)) (hS.put z oq (hR.2 a _ hKa).1)
  rw [e, arrV_store, arC_i E.2.1 (t := 0) rfl, arr_upd]
theorem v_cast (C : Cx E p s m meth c cc nL own ret args) (hR : Rep E K R I n H) (hS : va_S (AA E) s.heap H locs) {N : Nat} (hKa : K a = some (.inl (1, N))) {i x : Int32} (hin : vp_in i N) {I1 : MI} (hI : I1 = upI I a (ix i) (vp_nar .char x)) (hdg : decode cc pc = .ok (.castore, 1))
    (kk : ∀ (H1 : Heap) (locs1 : List Loc), Rep E K R I1 n H1 → va_S (AA E) s.heap H1 locs1 → W p l e rm s m args below meth c H1 locs1 cells slots Qw (F0 m (pc + 1) ls rest)) : W p l e rm s m args below meth c H locs cells slots Qw (F0 m pc ls (.int x :: .int i :: .ref a :: rest)) := by
  obtain ⟨hx, hb, hml, hown, hts, hK, hlocks, hret⟩ := C
  have hat : H[a]? = some (arrV (E.2.1 1) N (fun j => .int (I a j))) := (hR.2 a _ hKa).2
  refine W.cast hx hb hat ((hK.arr (t := 1) (by decide)).1 N (fun j => .int (I a j))) (fun q => by cases q) (by rw [arrV_size]; exact hin) rfl rfl hdg fun H1 e z oq => ?_
  subst hI
  refine kk H1 _ (hR.putA hKa ?_ z oq (fun b h => upI_ne I _ _ h) (fun _ _ => rfl)) (hS.put z oq (hR.2 a _ hKa).1)
  rw [e, arrV_store, arC_i E.2.1 (t := 1) rfl, arr_upd]
  simp [vp_nar, narrow]
/-- a reference into an array: its ghost, or anew -/
theorem v_aast {t N w ci : Nat} {q : vw_C} (C : Cx E p s m meth c cc nL own ret args) (hR : Rep E K R I n H) (hS : va_S (AA E) s.heap H locs) (hKa : K a = some (.inl (t, N))) (ht : t < 6) (hr : isI t = false) (hc : vwCl[ci]? = some q) (hty : tyA t = .object q.1) (hKw : K w = some (.inr ci)) {i : Int32} (hin : vp_in i N) {I1 : MI} {R1 : MR} (hval : (fun j => va_rf (R1 a j (I1 a j))) = updV (fun j => va_rf (R a j (I a j))) (ix i) (.ref w)) (hI : ∀ b, b ≠ a → I1 b = I b) (hRR : ∀ b, b ≠ a → R1 b = R b) (hdg : decode cc pc = .ok (.aastore, 1))
    (kk : ∀ (H1 : Heap) (locs1 : List Loc), Rep E K R1 I1 n H1 → va_S (AA E) s.heap H1 locs1 → W p l e rm s m args below meth c H1 locs1 cells slots Qw (F0 m (pc + 1) ls rest)) : W p l e rm s m args below meth c H locs cells slots Qw (F0 m pc ls (.ref w :: .int i :: .ref a :: rest)) := by
  obtain ⟨hx, hb, hml, hown, hts, hK, hlocks, hret⟩ := C
  have hlt : i.toNatClampNeg < N := Nat.not_le.mp fun q => hin (Or.inr q)
  have h0 : ¬ i < 0 := fun q => hin (Or.inl q)
  have hat : H[a]? = some (arrV (E.2.1 t) N (fun j => va_rf (R a j (I a j)))) := by rw [← arC_r E.2.1 hr]; exact (hR.2 a _ hKa).2
  obtain ⟨-, r', hr', cellV, g1, g2, g3, -⟩ := hR.2 w _ hKw
  have hcls := (hK.1.1 ci q hc).2
  have hRA := (hK.arr ht).2
  rw [hty] at hRA
  obtain ⟨kA, comp, k1, k2, k3, -⟩ := hRA
  have hcomp : comp = E.1.1 ci := Option.some.inj (k3.symm.trans hcls.1)
  subst hcomp
  obtain ⟨kC, hkC, -⟩ := hcls.2
  refine W.aast hx hb hat (fun q h => by cases h) (fun h => by cases h) k1 k2 rfl hkC ⟨h0, by rw [arrV_size]; exact hlt⟩ g1 (fun q h => by rw [g3] at h; cases h) (by rw [g2]; exact hkC) (by rw [g2]; exact va_assign hcls) rfl rfl hdg fun H1 e z oq => ?_
  refine kk H1 _ (hR.putA hKa ?_ z oq hI hRR) (hS.put z oq (hR.2 a _ hKa).1)
  rw [e, arrV_store, arC_r E.2.1 hr, hval]
theorem v_alen (C : Cx E p s m meth c cc nL own ret args) (hR : Rep E K R I n H) {t N : Nat} (hKa : K a = some (.inl (t, N))) (ht : t < 6) {v : Int32} (hv : Int32.ofNat N = v) (hdg : decode cc pc = .ok (.arraylength, 1))
    (kk : W p l e rm s m args below meth c H locs cells slots Qw (F0 m (pc + 1) ls (.int v :: rest))) : W p l e rm s m args below meth c H locs cells slots Qw (F0 m pc ls (.ref a :: rest)) := by
  subst hv
  obtain ⟨hx, hb, hml, hown, hts, hK, hlocks, hret⟩ := C
  cases hI : isI t with
  | true =>
    have hat : H[a]? = some (arrV (E.2.1 t) N (fun j => .int (I a j))) := by rw [← arC_i E.2.1 hI]; exact (hR.2 a _ hKa).2
    exact W.alen (n := Int32.ofNat N) hx hb hat ((hK.arr ht).1 N (fun j => .int (I a j))) (by rw [arrV_size] <;> rfl) rfl rfl hdg kk
  | false =>
    have hat : H[a]? = some (arrV (E.2.1 t) N (fun j => va_rf (R a j (I a j)))) := by rw [← arC_r E.2.1 hI]; exact (hR.2 a _ hKa).2
    exact W.alen (n := Int32.ofNat N) hx hb hat ((hK.arr ht).1 N (fun j => va_rf (R a j (I a j)))) (by rw [arrV_size] <;> rfl) rfl rfl hdg kk
/-- copying between arrays of ints -/
theorem v_copy {a0 N0 N1 index : Nat} (C : Cx E p s m meth c cc nL own ret args) (hls : ls.size = nL) (hR : Rep E K R I n H) (hS : va_S (AA E) s.heap H locs) (hlink : Cond.methodLink own index arraycopyName ∈ Gt) (hnat : Cond.native arraycopyName ∈ Gt) (hstat : Cond.static arraycopyName ∈ Gt) (hini : Cond.initialized "java/lang/System" ∈ Gt)
    (hK0 : K a0 = some (.inl (0, N0))) (hK1 : K a = some (.inl (0, N1))) {sp dp k : Int32} (h1 : ¬ sp < 0) (h2 : ¬ dp < 0) (h3 : ¬ k < 0) (h4 : sp.toNatClampNeg + k.toNatClampNeg ≤ N0) (h5 : dp.toNatClampNeg + k.toNatClampNeg ≤ N1)
    (hframes : 1 ≤ rm.frames) (hlocals : (rest.map fun v => v.category).sum + (nativeFrameWords "java/lang/System" "arraycopy" 5 + 11) ≤ rm.locals) {I1 : MI} (hI : I1 = cpI I a0 a (ix sp) (ix dp) (ix k)) (hdg : decode cc pc = .ok (.invokestatic index, 3))
    (kk : ∀ (H1 : Heap) (locs1 : List Loc), Rep E K R I1 n H1 → va_S (AA E) s.heap H1 locs1 → W p l e rm s m args below meth c H1 locs1 cells slots Qw (F0 m (pc + 3) ls rest)) : W p l e rm s m args below meth c H locs cells slots Qw (F0 m pc ls (.int k :: .int dp :: .ref a :: .int sp :: .ref a0 :: rest)) := by
  obtain ⟨hx, hb, hml, hown, hts, hK, hlocks, hret⟩ := C
  have nn : ∀ z : Int32, ¬ z < 0 → z.toInt = (z.toNatClampNeg : Int) := by
    intro z hz
    have hz0 : (0 : Int) ≤ z.toInt := by
      have := Int32.not_lt.mp hz
      simpa using Int32.le_iff_toInt_le.mp this
    show z.toInt = ((z.toInt.toNat : Nat) : Int)
    omega
  have hc0 : H[a0]? = some (arrV (E.2.1 0) N0 (fun j => .int (I a0 j))) := (hR.2 a0 _ hK0).2
  have hc1 : H[a]? = some (arrV (E.2.1 0) N1 (fun j => .int (I a j))) := (hR.2 a _ hK1).2
  intro T hT X
  obtain ⟨-, k0, hk0, cm0, hkk0⟩ := (hK.arr (t := 0) (by decide)).1 N0 (fun j => .int (I a0 j))
  obtain ⟨-, k1, hk1, cm1, hkk1⟩ := (hK.arr (t := 0) (by decide)).1 N1 (fun j => .int (I a j))
  obtain ⟨vm', X', step⟩ := X.arraycopy hx hown (hts _ hlink) (hts _ hnat) (hts _ hstat) (hts _ hini) (src := a0) (dst := a) (cs := arrV (E.2.1 0) N0 (fun j => .int (I a0 j))) (cd := arrV (E.2.1 0) N1 (fun j => .int (I a j))) (srcPos := sp) (destPos := dp) (n := k) (by rw [hT]; exact hc0) (by rw [hT]; exact hc1)
    (fun _ h => by cases h) (fun _ h => by cases h) (fun h => by cases h) (fun h => by cases h) hk0 hk1 hkk0 hkk1 (by simp [tyA, refKind]) h1 h2 h3
    (by rw [nn sp h1, nn k h3, arrV_size]; omega)
    (by rw [nn dp h2, nn k h3, arrV_size]; omega)
    (fun vm₁ _ i hi => by
      have e : (arrV (E.2.1 0) N0 (fun j => Value.int (I a0 j))).slots.getD (sp.toNatClampNeg + i) .null = .int (I a0 (sp.toNatClampNeg + i)) := by
        rw [Array.getD_eq_getD_getElem?, arrV_read _ _ (by omega)]
        rfl
      refine ⟨?_, ?_⟩
      · rw [e]; rfl
      · rw [e]
        exact trivial)
    (g := F0 m pc ls (.int k :: .int dp :: .ref a :: .int sp :: .ref a0 :: rest)) rfl (by rw [hml]; exact hls) (rest := rest) rfl (by rw [hb]; exact hdg) hframes (by show 2 * 0 + _ + _ ≤ _; omega)
  have e1 : copied (arrV (E.2.1 0) N0 (fun j => Value.int (I a0 j))) (arrV (E.2.1 0) N1 (fun j => Value.int (I a j))) sp dp k = arrV (E.2.1 0) N1 (fun j => .int (va_cpy (I a0) (I a) sp.toNatClampNeg dp.toNatClampNeg k.toNatClampNeg j)) := va_copied (fun z => .int z) (E.2.1 0) (E.2.1 0) (I a0) (I a) h4
  rw [e1] at X' step
  have hl : a < H.size := (Array.getElem?_eq_some_iff.mp hc1).1
  have hheap : ((T.setVm vm').setCell a (arrV (E.2.1 0) N1 (fun j => .int (va_cpy (I a0) (I a) sp.toNatClampNeg dp.toNatClampNeg k.toNatClampNeg j)))).heap = H.setIfInBounds a (arrV (E.2.1 0) N1 (fun j => .int (va_cpy (I a0) (I a) sp.toNatClampNeg dp.toNatClampNeg k.toNatClampNeg j))) := by rw [← hT]; rfl
  have oq : ∀ q : Nat, q ≠ a → (H.setIfInBounds a (arrV (E.2.1 0) N1 (fun j => .int (va_cpy (I a0) (I a) sp.toNatClampNeg dp.toNatClampNeg k.toNatClampNeg j))))[q]? = H[q]? := fun q hq => by simp [Array.getElem?_setIfInBounds, Ne.symm hq]
  subst hI
  have hz1 : (H.setIfInBounds a (arrV (E.2.1 0) N1 (fun j => .int (va_cpy (I a0) (I a) sp.toNatClampNeg dp.toNatClampNeg k.toNatClampNeg j)))).size = H.size := by simp
  obtain ⟨t, a1, b1⟩ := kk _ _ (hR.putA (I1 := cpI I a0 a (ix sp) (ix dp) (ix k)) (R1 := R) hK1 (by
      rw [arC_i E.2.1 (t := 0) rfl]
      simp [cpI, hl]) hz1 oq (fun b h => by simp [cpI, h]) (fun _ _ => rfl)) ⟨by rw [hz1]; exact hS.1, fun q g1 g2 => by
      rw [oq q (fun e => g2 (by rw [e]; exact (hR.2 a _ hK1).1))]
      exact hS.2.1 q g1 g2, fun q hq => by
      rcases List.mem_append.mp hq with h | h
      · exact hS.2.2 q h
      · obtain ⟨z, -, hz⟩ := List.mem_map.mp h
        rw [← hz]
        exact (hR.2 a _ hK1).1⟩ _ hheap X'
  exact ⟨t, step t a1, b1⟩
/-- static arrays -/
theorem v_gets {index j : Nat} (C : Cx E p s m meth c cc nL own ret args) (hS : va_S (AA E) s.heap H locs) (hj : j < 4) (hlink : Cond.fieldLink own index "TagBus" (stN j) "[I" ∈ Gt) (hdg : decode cc pc = .ok (.getstatic index, 3))
    (kk : ∀ t : Nat, va_T .int t 3 (stV j) (AA E) s s.heap → W p l e rm s m args below meth c H locs cells slots Qw (F0 m (pc + 3) ls (.ref t :: rest))) : W p l e rm s m args below meth c H locs cells slots Qw (F0 m pc ls rest) := by
  obtain ⟨hx, hb, hml, hown, hts, hK, hlocks, hret⟩ := C
  obtain ⟨t, g1, g2⟩ := hK.2.2.2.2.2 j hj
  exact va_gets hx hb g1 hS hown (hts _ hlink) (fun x h => h) hdg (kk t g2)
theorem v_stld {j t : Nat} (C : Cx E p s m meth c cc nL own ret args) (hS : va_S (AA E) s.heap H locs) (hT : va_T .int t 3 (stV j) (AA E) s s.heap) {i : Int32} (hin : vp_in i 3) (hdg : decode cc pc = .ok (.iaload, 1))
    (kk : W p l e rm s m args below meth c H locs cells slots Qw (F0 m (pc + 1) ls (.int ((stL j).getD (ix i) 0) :: rest))) : W p l e rm s m args below meth c H locs cells slots Qw (F0 m pc ls (.int i :: .ref t :: rest)) := by
  obtain ⟨hx, hb, hml, hown, hts, hK, hlocks, hret⟩ := C
  exact va_ti hx hb hT hS hin rfl hdg kk
theorem v_stlen {j t : Nat} (C : Cx E p s m meth c cc nL own ret args) (hS : va_S (AA E) s.heap H locs) (hT : va_T .int t 3 (stV j) (AA E) s s.heap) (hdg : decode cc pc = .ok (.arraylength, 1))
    (kk : W p l e rm s m args below meth c H locs cells slots Qw (F0 m (pc + 1) ls (.int 3 :: rest))) : W p l e rm s m args below meth c H locs cells slots Qw (F0 m pc ls (.ref t :: rest)) := by
  obtain ⟨hx, hb, hml, hown, hts, hK, hlocks, hret⟩ := C
  exact va_tlen hx hb hT hS rfl hdg kk
/-- making -/
theorem v_new {C0 : String} {T : u_T} {N ci index : Nat} (C : Cx E p s m meth c cc nL own ret args) (hR : Rep E K R I n H) (hS : va_S (AA E) s.heap H locs) (hcl : Cond.classLink own index C0 ∈ Gt) (hinst : Cond.instantiable C0 N ∈ Gt) (hini : Cond.initialized C0 ∈ Gt) (hc : vwCl[ci]? = some (C0, T, N)) (hin : ∀ w ∈ u_ws C0 T N, w ∈ Gt) (ty0 : Nat → FieldType) (hty : ∀ k, k < N → parseFieldDescriptor (T k).2.2.1 = some (ty0 k)) (hfs : ∀ j, j < N → defaultValue (ty0 j) = vp_V (fl ci (fun _ _ => none) (fun _ => 0)) j) (hcells : cells + 1 ≤ rm.cells) (hslots : slots + N ≤ rm.slots) (hdg : decode cc pc = .ok (.new index, 3))
    (kk : ∀ (H1 : Heap), Rep E (upK K n (.inr ci)) (clR R n) (clI I n) (n + 1) H1 → va_S (AA E) s.heap H1 locs → W p l e rm s m args below meth c H1 locs (cells + 1) (slots + N) Qw (F0 m (pc + 3) ls (.ref n :: rest))) : W p l e rm s m args below meth c H locs cells slots Qw (F0 m pc ls rest) := by
  obtain ⟨hx, hb, hml, hown, hts, hK, hlocks, hret⟩ := C
  have hKn := hK.1.1 ci _ hc
  have hz : H.size = n := hR.1
  refine W.newcK hx hb hown (hts _ hcl) (hts _ hinst) (hts _ hini) rfl hdg hcells hslots hKn.2.1 hz fun H1 kC hkC e1 z1 o1 => ?_
  refine kk H1 ⟨z1, fun b t hbt => ?_⟩ ⟨Nat.le_trans hS.1 (by omega), fun x h1 h2 => (o1 x (by have := hS.1; omega)).trans (hS.2.1 x h1 h2), hS.2.2⟩
  by_cases h : b = n
  · subst h
    simp only [upK, if_true] at hbt
    cases hbt
    refine ⟨by have := hS.1; have := hK.2.2.2.1; omega, _, hc, ?_⟩
    have hcR : clR R b b = fun _ _ => none := by simp [clR]
    have hcI : clI I b b = fun _ => 0 := by simp [clI]
    rw [hcR, hcI]
    exact (u_born ty0 hts hin hKn hkC e1 hty).to hfs
  · simp only [upK, if_neg h] at hbt
    obtain ⟨g1, g2⟩ := hR.2 b t hbt
    refine ⟨g1, ?_⟩
    have hcR : clR R n b = R b := by simp [clR, h]
    have hcI : clI I n b = I b := by simp [clI, h]
    rw [hcR, hcI]
    exact g2.kept (o1 b (by have := g2.lt; omega))
theorem v_newa {at_ : ArrayType} {t : Nat} (C : Cx E p s m meth c cc nL own ret args) (hR : Rep E K R I n H) (hS : va_S (AA E) s.heap H locs) (harr : Cond.arrayClass (newarray.typeOf at_) ∈ Gt) (hta : newarray.typeOf at_ = tyA t) (ht : t < 2) {k : Int32} {N : Nat} (hn : ¬ k < 0) (hN : k.toNatClampNeg = N) (hbytes : N * 4 ≤ 536870912) (hcells : cells + 1 ≤ rm.cells) (hslots : slots + N ≤ rm.slots) (hdg : decode cc pc = .ok (.newarray at_, 2))
    (kk : ∀ (H1 : Heap), Rep E (upK K n (.inl (t, N))) (clR R n) (clI I n) (n + 1) H1 → va_S (AA E) s.heap H1 locs → W p l e rm s m args below meth c H1 locs (cells + 1) (slots + N) Qw (F0 m (pc + 2) ls (.ref n :: rest))) : W p l e rm s m args below meth c H locs cells slots Qw (F0 m pc ls (.int k :: rest)) := by
  obtain ⟨hx, hb, hml, hown, hts, hK, hlocks, hret⟩ := C
  have hz : H.size = n := hR.1
  have hcb : N * componentBytes (newarray.typeOf at_) ≤ 536870912 := by
    rw [hta]
    match t, ht with
    | 0, _ => simp [tyA, componentBytes]; omega
    | 1, _ => simp [tyA, componentBytes]; omega
  refine va_newaK hx hb (hts _ harr) rfl hdg rfl hn hN hcb hcells hslots hz fun H1 cA e1 z1 o1 hAr hNm => ?_
  refine kk H1 ⟨z1, fun b t' hbt => ?_⟩ ⟨Nat.le_trans hS.1 (by omega), fun x h1 h2 => (o1 x (by have := hS.1; omega)).trans (hS.2.1 x h1 h2), hS.2.2⟩
  by_cases h : b = n
  · subst h
    simp only [upK, if_true] at hbt
    cases hbt
    refine ⟨by have := hS.1; have := hK.2.2.2.1; omega, ?_⟩
    have hcR : clR R b b = fun _ _ => none := by simp [clR]
    have hcI : clI I b b = fun _ => 0 := by simp [clI]
    rw [hcR, hcI]
    show H1[b]? = some (arC E.2.1 t N _ _)
    have hcA : cA = E.2.1 t := by
      have hra := (hK.arr (t := t) (by omega)).2
      rw [hta] at hNm
      match t, ht with
      | 0, _ => exact Option.some.inj (hNm.symm.trans hra)
      | 1, _ => exact Option.some.inj (hNm.symm.trans hra)
    rw [arC_i E.2.1 (t := t) (by match t, ht with | 0, _ => rfl | 1, _ => rfl), e1, hcA, hta]
    match t, ht with
    | 0, _ => rfl
    | 1, _ => rfl
  · simp only [upK, if_neg h] at hbt
    obtain ⟨g1, g2⟩ := hR.2 b t' hbt
    refine ⟨g1, ?_⟩
    have hcR : clR R n b = R b := by simp [clR, h]
    have hcI : clI I n b = I b := by simp [clI, h]
    rw [hcR, hcI]
    exact g2.kept (o1 b (by have := g2.lt; omega))
theorem v_anew {C0 : String} {t index : Nat} (C : Cx E p s m meth c cc nL own ret args) (hR : Rep E K R I n H) (hS : va_S (AA E) s.heap H locs) (hcl : Cond.classLink own index C0 ∈ Gt) (hov : C0 ∈ ["TagBus$Master", "TagBus$Target", "TagBus$Question", "TagBus$Bus"]) (hta : tyA t = .object C0) (ht : t < 6) (hr : isI t = false) {k : Int32} {N : Nat} (hn : ¬ k < 0) (hN : k.toNatClampNeg = N) (hbytes : N * 4 ≤ 536870912) (hcells : cells + 1 ≤ rm.cells) (hslots : slots + N ≤ rm.slots) (hdg : decode cc pc = .ok (.anewarray index, 3))
    (kk : ∀ (H1 : Heap), Rep E (upK K n (.inl (t, N))) (clR R n) (clI I n) (n + 1) H1 → va_S (AA E) s.heap H1 locs → W p l e rm s m args below meth c H1 locs (cells + 1) (slots + N) Qw (F0 m (pc + 3) ls (.ref n :: rest))) : W p l e rm s m args below meth c H locs cells slots Qw (F0 m pc ls (.int k :: rest)) := by
  obtain ⟨hx, hb, hml, hown, hts, hK, hlocks, hret⟩ := C
  have hz : H.size = n := hR.1
  subst hN
  subst hz
  refine W.anew hx hb hown (hts _ hcl) (va_AO.use (hK.2.2.1 C0 hov)) rfl hdg rfl hn hbytes hcells hslots fun cA kA comp f1 f2 f3 f4 => ?_
  generalize hH1 : H.push ({ cls := cA, slots := Array.replicate k.toNatClampNeg .null, vm := .none } : Cell) = H1
  have z1 : H1.size = H.size + 1 := by rw [← hH1, Array.size_push]
  have e1 : H1[H.size]? = some (arrV cA k.toNatClampNeg (fun _ => .null)) := by rw [← hH1, Array.getElem?_push_size, ← arrV_new]
  have o1 : ∀ q : Nat, q < H.size → H1[q]? = H[q]? := fun q hq => by rw [← hH1, Array.getElem?_push, if_neg (Nat.ne_of_lt hq)]
  refine kk H1 ⟨z1, fun b t' hbt => ?_⟩ ⟨Nat.le_trans hS.1 (by omega), fun x h1 h2 => (o1 x (by have := hS.1; omega)).trans (hS.2.1 x h1 h2), hS.2.2⟩
  by_cases h : b = H.size
  · subst h
    simp only [upK, if_true] at hbt
    cases hbt
    refine ⟨by have := hS.1; have := hK.2.2.2.1; omega, ?_⟩
    have hcR : clR R H.size H.size = fun _ _ => none := by simp [clR]
    have hcI : clI I H.size H.size = fun _ => 0 := by simp [clI]
    rw [hcR, hcI]
    show H1[H.size]? = some (arC E.2.1 t _ _ _)
    have hra := (hK.arr ht).2
    rw [hta] at hra
    obtain ⟨kA', comp', -, -, -, g4⟩ := hra
    have hcA : cA = E.2.1 t := Option.some.inj (f1.symm.trans g4)
    rw [arC_r E.2.1 hr, e1, hcA]
    rfl
  · simp only [upK, if_neg h] at hbt
    obtain ⟨g1, g2⟩ := hR.2 b t' hbt
    refine ⟨g1, ?_⟩
    have hcR : clR R H.size b = R b := by simp [clR, h]
    have hcI : clI I H.size b = I b := by simp [clI, h]
    rw [hcR, hcI]
    exact g2.kept (o1 b (g2.lt))
/-- calls -/
theorem v_after {mc ms : Nat} {a : Array Value} {Q : Option Value → MK → MR → MI → Nat → Prop} (hr : va_Run p l e rm s m args below meth c H locs cells slots mc ms (F0 m pc ls st0) rest (QcM E Q a) (AA E)) (hS : va_S (AA E) s.heap H locs)
    (kk : ∀ (r : Option Value) (K' : MK) (R' : MR) (I' : MI) (n' : Nat) (H1 : Heap) (locs1 : List Loc), Q r K' R' I' n' → Rep E K' R' I' n' H1 → va_S (AA E) s.heap H1 locs1 → W p l e rm s m args below meth c H1 locs1 (cells + mc) (slots + ms) Qw (F0 m (pc + 3) ls (r.toList ++ rest))) : W p l e rm s m args below meth c H locs cells slots Qw (F0 m pc ls st0) := by
  intro T hT X
  obtain ⟨v, st₀, t, T', L, h0, X', hL, e1, e2, ⟨⟨r, K', R', I', n', hv, hRep, hQ⟩, hz, hk⟩, st⟩ := hr T hT X
  cases hv
  rw [h0] at hz hk
  obtain ⟨t2, a1, b1⟩ := kk v K' R' I' n' T'.heap (locs ++ L) hQ (by rw [e1]; exact hRep)
    ⟨Nat.le_trans hS.1 (by rw [e1]; exact hz), fun q h1 h2 => by rw [e1, hk q (Nat.lt_of_lt_of_le h1 hS.1) h2]; exact hS.2.1 q h1 h2, fun q hq => by
      rcases List.mem_append.mp hq with h | h
      · exact hS.2.2 q h
      · exact hL q h⟩ T' rfl X'
  exact ⟨t2, st t2 a1, b1⟩
/-- what a callee's words give -/
def CaV (y : MethodName) (b : ByteArray) (nL : Nat) (ret : Option FieldType) (C0 : String) (na : Nat) : Prop := Cond.instanceMethod y ∈ Gt ∧ Cond.selects C0 y y ∈ Gt ∧ Cond.code y b nL ret ∈ Gt ∧ Cond.initialized C0 ∈ Gt ∧ y.cls = C0 ∧ y.cls ≠ "java/lang/invoke/MethodHandle" ∧ y.cls ≠ "java/lang/invoke/VarHandle" ∧ (parseMethodDescriptor y.desc).map (fun d => d.parameters.length) = some na
def CaS (y : MethodName) (b : ByteArray) (nL : Nat) (ret : Option FieldType) (C0 : String) (na : Nat) : Prop := Cond.static y ∈ Gt ∧ Cond.code y b nL ret ∈ Gt ∧ Cond.initialized C0 ∈ Gt ∧ y.cls = C0 ∧ y.cls ≠ "java/lang/invoke/MethodHandle" ∧ y.cls ≠ "java/lang/invoke/VarHandle" ∧ (parseMethodDescriptor y.desc).map (fun d => d.parameters.length) = some na
def CaI (y : MethodName) (b : ByteArray) (nL : Nat) (C0 : String) (na : Nat) : Prop := Cond.instanceMethod y ∈ Gt ∧ Cond.code y b nL none ∈ Gt ∧ Cond.initialized C0 ∈ Gt ∧ y.cls = C0 ∧ y.name = "<init>" ∧ y.cls ≠ "java/lang/invoke/MethodHandle" ∧ y.cls ≠ "java/lang/invoke/VarHandle" ∧ (parseMethodDescriptor y.desc).map (fun d => d.parameters.length) = some na
theorem gt_all {c : Cond} (hc : c ∈ Gt) : GoodIn Gt (c :: Gt) := fun w hw => by
  rcases List.mem_cons.mp hw with rfl | h
  · exact ⟨hc, good_of_word (List.mem_filter.mp hc).2⟩
  · exact ⟨h, good_of_word (List.mem_filter.mp h).2⟩
theorem gt_app {ws ws' : List Cond} (h : ∀ w ∈ ws, w ∈ Gt) (h' : GoodIn Gt ws') : GoodIn Gt (ws ++ ws') := fun w hw => by
  rcases List.mem_append.mp hw with g | g
  · exact ⟨h w g, good_of_word (List.mem_filter.mp (h w g)).2⟩
  · exact h' w g
variable {y : MethodName} {b : ByteArray} {nL' : Nat} {ret' : Option FieldType} {fr lo mc ms index na : Nat} {C0 : String} {As : List Value} {Q : Option Value → MK → MR → MI → Nat → Prop}
theorem PreS.of {av : List Value} (hK : Kx E s) (hR : Rep E K R I n H) (hS : va_S (AA E) s.heap H locs) : PreS s H (PcM E av K R I n) av := ⟨PcM.blind, fun U hU hW => ⟨rfl, by rw [hU]; exact hR, hK.go hW hU hS⟩⟩
theorem PreV.of {ci : Nat} {q : vw_C} (hK : Kx E s) (hR : Rep E K R I n H) (hS : va_S (AA E) s.heap H locs) (hKa : K a = some (.inr ci)) (hc : vwCl[ci]? = some q) : PreV s H q.1 a (PcM E (.ref a :: As) K R I n) As := ⟨PcM.blind, by
    obtain ⟨-, q', h1, cell, g1, g2, g3, -⟩ := hR.2 a _ hKa
    exact ⟨cell, g1, by rw [g3]; rfl, by rw [g2]; exact (hK.1.1 ci q hc).2.1⟩, fun U hU hW => ⟨rfl, by rw [hU]; exact hR, hK.go hW hU hS⟩⟩
theorem v_callV {ci : Nat} {q : vw_C} (C : Cx E p s m meth c cc nL own ret args) (hR : Rep E K R I n H) (hS : va_S (AA E) s.heap H locs) (hls : ls.size = nL) (hca : CaV y b nL' ret' C0 na) (hlink : Cond.methodLink own index y ∈ Gt) (hM : MM E l y b nL' ret' fr lo mc ms (.ref a :: As) K R I n Q) (hKa : K a = some (.inr ci)) (hc : vwCl[ci]? = some q) (hq : q.1 = C0) (hn : As.length = na) (hst : st0 = As.reverse ++ .ref a :: rest) (hcat : (rest.map fun v => v.category).sum ≤ 8) (hrm : fr + 1 ≤ rm.frames ∧ 8 + (nL' + 11) + lo ≤ rm.locals) (hf : cells + mc ≤ rm.cells ∧ slots + ms ≤ rm.slots) (hdg : decode cc pc = .ok (.invokevirtual index, 3))
    (kk : ∀ (r : Option Value) (K' : MK) (R' : MR) (I' : MI) (n' : Nat) (H1 : Heap) (locs1 : List Loc), Q r K' R' I' n' → Rep E K' R' I' n' H1 → va_S (AA E) s.heap H1 locs1 → W p l e rm s m args below meth c H1 locs1 (cells + mc) (slots + ms) Qw (F0 m (pc + 3) ls (r.toList ++ rest))) : W p l e rm s m args below meth c H locs cells slots Qw (F0 m pc ls st0) := by
  obtain ⟨hx, hb, hml, hown, hts, hK, hlocks, hret⟩ := C
  obtain ⟨c1, c2, c3, c4, c5, c6, c7, c8⟩ := hca
  subst hq
  refine v_after (va_runV (Ts := Gt) (As := As) (rest := rest) ⟨hx, hb, hml, hown, hts⟩ hM (cwV na hts (gt_app (ws := [.methodLink own index y, .instanceMethod y, .selects q.1 y y, .initialized q.1]) (fun w hw => by
    simp only [List.mem_cons, List.not_mem_nil, or_false] at hw
    rcases hw with rfl | rfl | rfl | rfl <;> assumption) (gt_all c3)) rfl rfl rfl ⟨c5, c6, c7, c8⟩ hrm) (PreV.of hK hR hS hKa hc) rfl hn hls hst (lv_room hcat) hdg hf) hS kk
theorem v_callS (C : Cx E p s m meth c cc nL own ret args) (hR : Rep E K R I n H) (hS : va_S (AA E) s.heap H locs) (hls : ls.size = nL) (hca : CaS y b nL' ret' C0 na) (hlink : Cond.methodLink own index y ∈ Gt) (hM : MM E l y b nL' ret' fr lo mc ms As K R I n Q) (hn : As.length = na) (hst : st0 = As.reverse ++ rest) (hcat : (rest.map fun v => v.category).sum ≤ 8) (hrm : fr + 1 ≤ rm.frames ∧ 8 + (nL' + 11) + lo ≤ rm.locals) (hf : cells + mc ≤ rm.cells ∧ slots + ms ≤ rm.slots) (hdg : decode cc pc = .ok (.invokestatic index, 3))
    (kk : ∀ (r : Option Value) (K' : MK) (R' : MR) (I' : MI) (n' : Nat) (H1 : Heap) (locs1 : List Loc), Q r K' R' I' n' → Rep E K' R' I' n' H1 → va_S (AA E) s.heap H1 locs1 → W p l e rm s m args below meth c H1 locs1 (cells + mc) (slots + ms) Qw (F0 m (pc + 3) ls (r.toList ++ rest))) : W p l e rm s m args below meth c H locs cells slots Qw (F0 m pc ls st0) := by
  obtain ⟨hx, hb, hml, hown, hts, hK, hlocks, hret⟩ := C
  obtain ⟨c1, c3, c4, c5, c6, c7, c8⟩ := hca
  subst c5
  refine v_after (va_runS (Ts := Gt) (As := As) (rest := rest) ⟨hx, hb, hml, hown, hts⟩ hM (va_cwS na hts (gt_app (ws := [.methodLink own index y, .static y, .initialized y.cls]) (fun w hw => by
    simp only [List.mem_cons, List.not_mem_nil, or_false] at hw
    rcases hw with rfl | rfl | rfl <;> assumption) (gt_all c3)) rfl rfl rfl ⟨c6, c7, c8⟩ hrm) (PreS.of hK hR hS) rfl hn hls hst (lv_room hcat) hdg hf) hS kk
theorem v_callSN {host : String} (C : Cx E p s m meth c cc nL own ret args) (hR : Rep E K R I n H) (hS : va_S (AA E) s.heap H locs) (hls : ls.size = nL) (hca : CaS y b nL' ret' C0 na) (hlink : (own, index, y, host) ∈ nestM) (hM : MM E l y b nL' ret' fr lo mc ms As K R I n Q) (hn : As.length = na) (hst : st0 = As.reverse ++ rest) (hcat : (rest.map fun v => v.category).sum ≤ 8) (hrm : fr + 1 ≤ rm.frames ∧ 8 + (nL' + 11) + lo ≤ rm.locals) (hf : cells + mc ≤ rm.cells ∧ slots + ms ≤ rm.slots) (hdg : decode cc pc = .ok (.invokestatic index, 3))
    (kk : ∀ (r : Option Value) (K' : MK) (R' : MR) (I' : MI) (n' : Nat) (H1 : Heap) (locs1 : List Loc), Q r K' R' I' n' → Rep E K' R' I' n' H1 → va_S (AA E) s.heap H1 locs1 → W p l e rm s m args below meth c H1 locs1 (cells + mc) (slots + ms) Qw (F0 m (pc + 3) ls (r.toList ++ rest))) : W p l e rm s m args below meth c H locs cells slots Qw (F0 m pc ls st0) := by
  obtain ⟨hx, hb, hml, hown, hts, hK, hlocks, hret⟩ := C
  obtain ⟨c1, c3, c4, c5, c6, c7, c8⟩ := hca
  subst c5
  refine v_after (va_runSN (Ts := Gt) (As := As) (rest := rest) (host := host) ⟨hx, hb, hml, hown, hts⟩ hM ⟨va_cnB na hts (gt_all c3) rfl rfl rfl (hK.2.1 _ hlink) (hts _ c4) ⟨c6, c7, c8⟩ hrm, hts _ c1, trivial⟩ (PreS.of hK hR hS) rfl hn hls hst (lv_room hcat) hdg hf) hS kk
theorem v_callI (C : Cx E p s m meth c cc nL own ret args) (hR : Rep E K R I n H) (hS : va_S (AA E) s.heap H locs) (hls : ls.size = nL) (hca : CaI y b nL' C0 na) (hlink : Cond.methodLink own index y ∈ Gt) (hM : MM E l y b nL' none fr lo mc ms (.ref a :: As) K R I n Q) (hn : As.length = na) (hst : st0 = As.reverse ++ .ref a :: rest) (hcat : (rest.map fun v => v.category).sum ≤ 8) (hrm : fr + 1 ≤ rm.frames ∧ 8 + (nL' + 11) + lo ≤ rm.locals) (hf : cells + mc ≤ rm.cells ∧ slots + ms ≤ rm.slots) (hdg : decode cc pc = .ok (.invokespecial index, 3))
    (kk : ∀ (r : Option Value) (K' : MK) (R' : MR) (I' : MI) (n' : Nat) (H1 : Heap) (locs1 : List Loc), Q r K' R' I' n' → Rep E K' R' I' n' H1 → va_S (AA E) s.heap H1 locs1 → W p l e rm s m args below meth c H1 locs1 (cells + mc) (slots + ms) Qw (F0 m (pc + 3) ls (r.toList ++ rest))) : W p l e rm s m args below meth c H locs cells slots Qw (F0 m pc ls st0) := by
  obtain ⟨hx, hb, hml, hown, hts, hK, hlocks, hret⟩ := C
  obtain ⟨c1, c3, c4, c5, c0, c6, c7, c8⟩ := hca
  subst c5
  refine v_after (va_runI (Ts := Gt) (As := As) (rest := rest) ⟨hx, hb, hml, hown, hts⟩ hM (cwI na hts (gt_all c3) rfl rfl rfl (hts _ c4) (hts _ hlink) (hts _ c1) c0 ⟨c6, c7, c8⟩ hrm) (PreS.of hK hR hS) rfl hn hls hst (lv_room hcat) hdg hf) hS kk
theorem v_callIN {host : String} (C : Cx E p s m meth c cc nL own ret args) (hR : Rep E K R I n H) (hS : va_S (AA E) s.heap H locs) (hls : ls.size = nL) (hca : CaI y b nL' C0 na) (hlink : (own, index, y, host) ∈ nestM) (hM : MM E l y b nL' none fr lo mc ms (.ref a :: As) K R I n Q) (hn : As.length = na) (hst : st0 = As.reverse ++ .ref a :: rest) (hcat : (rest.map fun v => v.category).sum ≤ 8) (hrm : fr + 1 ≤ rm.frames ∧ 8 + (nL' + 11) + lo ≤ rm.locals) (hf : cells + mc ≤ rm.cells ∧ slots + ms ≤ rm.slots) (hdg : decode cc pc = .ok (.invokespecial index, 3))
    (kk : ∀ (r : Option Value) (K' : MK) (R' : MR) (I' : MI) (n' : Nat) (H1 : Heap) (locs1 : List Loc), Q r K' R' I' n' → Rep E K' R' I' n' H1 → va_S (AA E) s.heap H1 locs1 → W p l e rm s m args below meth c H1 locs1 (cells + mc) (slots + ms) Qw (F0 m (pc + 3) ls (r.toList ++ rest))) : W p l e rm s m args below meth c H locs cells slots Qw (F0 m pc ls st0) := by
  obtain ⟨hx, hb, hml, hown, hts, hK, hlocks, hret⟩ := C
  obtain ⟨c1, c3, c4, c5, c0, c6, c7, c8⟩ := hca
  subst c5
  refine v_after (va_runIN (Ts := Gt) (As := As) (rest := rest) (host := host) ⟨hx, hb, hml, hown, hts⟩ hM ⟨va_cnB na hts (gt_all c3) rfl rfl rfl (hK.2.1 _ hlink) (hts _ c4) ⟨c6, c7, c8⟩ hrm, c0, hts _ c1⟩ (PreS.of hK hR hS) rfl hn hls hst (lv_room hcat) hdg hf) hS kk
end MROWS
