def t4 (a k : Nat) : Nat := (a + k) % 4
def tgtO (σ : Sr) : Option Nat := ((List.range 4).find? (fun k => (ansO σ (t4 (ix (σ 6)) k)).isSome)).map (t4 (ix (σ 6)))
def canB (σ : Sr) (m : Nat) : Bool := decide (1 ≤ loN σ m) && decide (¬ σ 0 < σ (21 + 11 * m + 9)) && (freeO σ).isSome && decide (¬ σ (21 + 11 * m + 7) ≤ nI (holdsN σ m))
def patB (σ : Sr) (f : Option Nat) (m : Nat) : Bool := canB σ m && decide (¬ σ (21 + 11 * m + 10) < σ 3) && (match f with
  | none => true
  | some g => decide (¬ σ (21 + 11 * m + 10) ≤ σ (21 + 11 * g + 10)))
def patL (σ : Sr) : Nat → Option Nat
  | 0 => none
  | m + 1 => if patB σ (patL σ m) m = true then some m else patL σ m
def mstO (σ : Sr) : Option Nat := match patL σ 4 with
  | some m => some m
  | none => ((List.range 4).find? (fun k => canB σ (t4 (ix (σ 7)) k))).map (t4 (ix (σ 7)))
theorem patL_lt {σ : Sr} : ∀ k g, patL σ k = some g → g < k
  | 0, g, h => by cases h
  | k + 1, g, h => by
    unfold patL at h
    split at h
    · cases h; omega
    · have := patL_lt k g h; omega
theorem nI_t4 {a k : Nat} (h : a + k < 2 ^ 31) : nI (a + k) - nI (a + k) / (4 : Int32) * (4 : Int32) = nI (t4 a k) := nI_mod4 h
theorem t4_lt (a k : Nat) : t4 a k < 4 := Nat.mod_lt _ (by decide)
theorem tgtO_lt {σ : Sr} {t : Nat} (h : tgtO σ = some t) : t < 4 := by
  unfold tgtO at h
  rw [Option.map_eq_some_iff] at h
  obtain ⟨k, -, rfl⟩ := h
  exact t4_lt _ _
theorem mstO_lt {σ : Sr} {m : Nat} (h : mstO σ = some m) : m < 4 := by
  unfold mstO at h
  split at h
  · rename_i g hg
    cases h
    exact patL_lt _ _ hg
  · rw [Option.map_eq_some_iff] at h
    obtain ⟨k, -, rfl⟩ := h
    exact t4_lt _ _
theorem oI_none {o : Option Nat} (h : o = none) : oI o = -5 := by rw [h]; rfl
theorem oI_ne {o : Option Nat} {g : Nat} (h : o = some g) (hg : g < 2 ^ 31) : oI o ≠ -5 := by rw [h]; exact nI_ne5 hg
theorem isSome_f {o : Option Nat} (h : o = none) : o.isSome = false := by rw [h]; rfl
theorem isSome_t {o : Option Nat} {g : Nat} (h : o = some g) : o.isSome = true := by rw [h]; rfl
theorem freeO_lt {σ : Sr} {k : Nat} (h : freeO σ = some k) : k < Tg_ σ ∧ σ (13 + k) = -5 := by
  unfold freeO at h
  rw [List.find?_range_eq_some] at h
  obtain ⟨h1, h2, -⟩ := h
  exact ⟨List.mem_range.mp h2, by simpa using h1⟩
section REF4
variable {K : MK} {R : MR} {I : MI} {r : Nat} {σ : Sr}
theorem InvS.rows (h : InvS σ) {m : Nat} (hm : m < 4) : loN σ m ≤ 6 ∧ σ (21 + 11 * m + 0) = nI (loN σ m) ∧ ∀ j, j < loN σ m → rwq σ m j < 200 ∧ rwq σ m j < ix (σ 4) ∧ σ (21 + 11 * m + 1 + j) = nI (rwq σ m j) ∧ σ (161 + 11 * rwq σ m j + 4) = 0 ∧ σ (161 + 11 * rwq σ m j + 0) = nI m ∧ QOK σ (rwq σ m j) ∧ ∀ i, i < j → σ (21 + 11 * m + 1 + i) ≠ nI (rwq σ m j) := by
  obtain ⟨T, A, a1, a2, a3, a4, a5, a6, a7, a8, a9, a10, a11⟩ := h
  obtain ⟨L, hL, e, hj⟩ := a9 m hm
  have en : loN σ m = L := ix_eq e (by omega)
  refine ⟨by omega, by rw [en]; exact e, fun j hjn => ?_⟩
  obtain ⟨q, hq, e1, e2, e3, e4⟩ := hj j (by omega)
  have eq : rwq σ m j = q := ix_eq e1 (by omega)
  have hA : ix (σ 4) = A := ix_eq a4 (by omega)
  rw [eq, hA]
  exact ⟨by omega, hq, e1, e2, e3, a11 q hq, e4⟩
theorem InvS.turns (h : InvS σ) : ix (σ 6) < 4 ∧ σ 6 = nI (ix (σ 6)) ∧ ix (σ 7) < 4 ∧ σ 7 = nI (ix (σ 7)) := by
  obtain ⟨T, A, a1, a2, a3, a4, a5, ⟨t, ht, e⟩, ⟨m, hm, e2⟩, -⟩ := h
  rw [ix_eq e (by omega), ix_eq e2 (by omega)]
  exact ⟨ht, e, hm, e2⟩
end REF4
