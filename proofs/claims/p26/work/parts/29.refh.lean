/-- a tick -/
def ansFst (σ : Sr) : Bool := σ 2 == 0 || (σ 2 == 2 && σ 5 == 0)
def isAns (σ : Sr) : Bool := (tgtO σ).isSome && (ansFst σ || (mstO σ).isNone)
/-- the trip: what it makes of the row, which it is, whose question -/
def tripS (σ : Sr) : Sr := if isAns σ = true then (match tgtO σ with
    | some t => (match ansO σ t with
      | some p => answersS σ t p
      | none => σ)
    | none => σ) else (match mstO σ with
    | some m => if full σ (tgt0 σ m) then backS σ m else goneS σ m
    | none => σ)
def tripK (σ : Sr) : Int32 := if isAns σ = true then 1 else (match mstO σ with
    | some m => if full σ (tgt0 σ m) then 2 else 0
    | none => -5)
def tripQ (σ : Sr) : Int32 := if isAns σ = true then (match tgtO σ with
    | some t => (match ansO σ t with
      | some p => nI (lsq σ t p)
      | none => -5)
    | none => -5) else (match mstO σ with
    | some m => nI (rwq σ m 0)
    | none => -5)
def idleS (σ : Sr) (k : Int32) : Sr := su σ 11 (σ 11 + (if k = -5 then 1 else 0))
def waitS (σ : Sr) (k : Int32) (g : Option Nat) : Nat → Sr
  | 0 => σ
  | m + 1 => su (waitS σ k g m) (21 + 11 * m + 10) (if loN σ m = 0 ∨ (k = 0 ∧ nI m = oI g) then 0 else waitS σ k g m (21 + 11 * m + 10) + 1)
def tickT (σ : Sr) (k : Int32) (g : Option Nat) : Sr := su (waitS (idleS σ k) k g 4) 0 (waitS (idleS σ k) k g 4 0 + 1)
def tickS (σ : Sr) : Sr := tickT (tripS (doAllS σ)) (tripK (doAllS σ)) (mstO (doAllS σ))
def tickK (σ : Sr) : Int32 := tripK (doAllS σ)
def tickQ (σ : Sr) : Int32 := tripQ (doAllS σ)
theorem waitS_n {σ : Sr} {k : Int32} {g : Option Nat} {s : Nat} : ∀ m, (∀ j, j < m → s ≠ 21 + 11 * j + 10) → waitS σ k g m s = σ s
  | 0, _ => rfl
  | m + 1, h => by
    unfold waitS
    rw [su_n (h m (by omega))]
    exact waitS_n m (fun j hj => h j (by omega))
theorem mstO_can {σ : Sr} {m : Nat} (h : mstO σ = some m) : canB σ m = true := by
  have hp : ∀ n g, patL σ n = some g → canB σ g = true := by
    intro n
    induction n with
    | zero => intro g h; cases h
    | succ n ih =>
      intro g h
      unfold patL at h
      split at h
      · rename_i hb
        cases h
        unfold patB at hb
        simp only [Bool.and_eq_true] at hb
        exact hb.1.1
      · exact ih g h
  unfold mstO at h
  split at h
  · rename_i g hg
    cases h
    exact hp 4 _ hg
  · rw [Option.map_eq_some_iff] at h
    obtain ⟨k, hk, rfl⟩ := h
    have := List.find?_some hk
    exact this
theorem canB_ok {σ : Sr} {m : Nat} (h : canB σ m = true) : 1 ≤ loN σ m ∧ (freeO σ).isSome = true := by
  unfold canB at h
  simp only [Bool.and_eq_true, decide_eq_true_eq] at h
  exact ⟨h.1.1.1, h.1.2⟩
theorem tgtO_ans {σ : Sr} {t : Nat} (h : tgtO σ = some t) : ∃ p, ansO σ t = some p := by
  unfold tgtO at h
  rw [Option.map_eq_some_iff] at h
  obtain ⟨k, hk, rfl⟩ := h
  have := List.find?_some hk
  exact Option.isSome_iff_exists.mp this
theorem tripS_inv {σ : Sr} (hS : InvS σ) : InvS (tripS σ) := by
  unfold tripS
  split
  · split
    · rename_i t ht
      obtain ⟨p, hp⟩ := tgtO_ans ht
      rw [hp]
      exact answersS_inv hS (tgtO_lt ht) (ansO_lt hp)
    · exact hS
  · split
    · rename_i m hm
      obtain ⟨h1, h2⟩ := canB_ok (mstO_can hm)
      split
      · exact backS_inv hS (mstO_lt hm)
      · rename_i hf
        exact goneS_inv hS (mstO_lt hm) h1 h2 hf
    · exact hS
theorem tickT_n {σ : Sr} {k : Int32} {g : Option Nat} {s : Nat} (h0 : s ≠ 0) (h11 : s ≠ 11) (hw : ∀ j, j < 4 → s ≠ 21 + 11 * j + 10) : tickT σ k g s = σ s := by
  unfold tickT
  rw [su_n h0, waitS_n 4 hw]
  unfold idleS
  rw [su_n h11]
theorem tickT_inv {σ : Sr} (hS : InvS σ) (k : Int32) (g : Option Nat) : InvS (tickT σ k g) := hS.fr (fun s hs => tickT_n (by unfold isStr at hs; omega) (by unfold isStr at hs; omega) (fun j hj => by unfold isStr at hs; omega)) (fun q => Or.inl (tickT_n (by omega) (by omega) (fun j hj => by omega)))
theorem tickS_inv {σ : Sr} (hS : InvS σ) : InvS (tickS σ) := tickT_inv (tripS_inv (doAllL_inv hS 4 (by omega)).1) _ _
section REF7
variable {K : MK} {R : MR} {I : MI} {r : Nat} {σ : Sr}
theorem upI_upI (I : MI) (a k : Nat) (x y : Int32) : upI (upI I a k x) a k y = upI I a k y := by
  funext b j
  by_cases h : b = a ∧ j = k <;> simp [upI, h]
end REF7
