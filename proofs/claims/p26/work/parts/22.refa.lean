/-! THE REFERENCE'S METHODS: what each makes of the row of numbers -/
theorem cnt_le (p : Nat → Bool) : ∀ n, cnt p n ≤ n
  | 0 => Nat.le_refl _
  | n + 1 => by
    have := cnt_le p n
    unfold cnt
    split <;> omega
theorem cnt_t {p : Nat → Bool} {n : Nat} (h : p n = true) : cnt p (n + 1) = cnt p n + 1 := by simp [cnt, h]
theorem cnt_f {p : Nat → Bool} {n : Nat} (h : p n = false) : cnt p (n + 1) = cnt p n := by simp [cnt, h]
def ansB (σ : Sr) (t : Nat) (f : Option Nat) (k : Nat) : Bool := σ (161 + 11 * lsq σ t k + 4) == 2 && (match f with
  | none => true
  | some g => decide (σ (161 + 11 * lsq σ t k + 10) < σ (161 + 11 * lsq σ t g + 10)))
def ansL (σ : Sr) (t : Nat) : Nat → Option Nat
  | 0 => none
  | k + 1 => if ansB σ t (ansL σ t k) k = true then some k else ansL σ t k
theorem ansL_lt {σ : Sr} {t : Nat} : ∀ k g, ansL σ t k = some g → g < k
  | 0, g, h => by cases h
  | k + 1, g, h => by
    unfold ansL at h
    split at h
    · cases h; omega
    · have := ansL_lt k g h; omega
def manyA (σ : Sr) (t : Nat) : Nat := if σ (65 + 24 * t + 18) = 0 ∧ 1 < inN σ t then 1 else inN σ t
def ansO (σ : Sr) (t : Nat) : Option Nat := ansL σ t (manyA σ t)
theorem manyA_le (σ : Sr) (t : Nat) : manyA σ t ≤ inN σ t := by
  unfold manyA
  split
  · rename_i h; omega
  · exact Nat.le_refl _
theorem ansO_lt {σ : Sr} {t g : Nat} (h : ansO σ t = some g) : g < inN σ t := Nat.lt_of_lt_of_le (ansL_lt _ _ h) (manyA_le σ t)
section REF2
variable {K : MK} {R : MR} {I : MI} {r : Nat} {σ : Sr}
end REF2
