def doA (σ : Sr) (q c : Nat) : Sr := su σ (161 + 11 * q + 6) (σ c)
def doB (σ : Sr) (q c : Nat) : Sr := su σ c (if σ (161 + 11 * q + 3) = -5 then σ c else σ (161 + 11 * q + 3))
def doOn (σ : Sr) (q c : Nat) : Sr := su (doB (doA σ q c) q c) (161 + 11 * q + 4) 2
def doOne (σ : Sr) (t k : Nat) : Sr := if σ (161 + 11 * lsq σ t k + 4) = 1 ∧ σ (161 + 11 * lsq σ t k + 10) = σ 0 then doOn σ (lsq σ t k) (65 + 24 * t + ix (σ (161 + 11 * lsq σ t k + 2))) else σ
def doRow (σ : Sr) (t : Nat) : Nat → Sr
  | 0 => σ
  | k + 1 => doOne (doRow σ t k) t k
def doAllL (σ : Sr) : Nat → Sr
  | 0 => σ
  | t + 1 => doRow (doAllL σ t) t (inN (doAllL σ t) t)
def doAllS (σ : Sr) : Sr := doAllL σ 4
theorem doOn_n {σ : Sr} {q c j : Nat} (h1 : j ≠ 161 + 11 * q + 6) (h2 : j ≠ c) (h3 : j ≠ 161 + 11 * q + 4) : doOn σ q c j = σ j := by
  unfold doOn doB doA
  rw [su_n h3, su_n h2, su_n h1]
theorem doOne_n {σ : Sr} {t k j : Nat} (ha : ∃ a, a < 16 ∧ σ (161 + 11 * lsq σ t k + 2) = nI a) (h1 : j < 65 ∨ (65 ≤ j ∧ j < 161 ∧ 16 ≤ (j - 65) % 24) ∨ (161 ≤ j ∧ (j - 161) % 11 ≠ 4 ∧ (j - 161) % 11 ≠ 6)) (ht : t < 4) : doOne σ t k j = σ j := by
  unfold doOne
  split
  · obtain ⟨a, ha, e⟩ := ha
    rw [ix_eq e (by omega)]
    exact doOn_n (by omega) (by omega) (by omega)
  · rfl
theorem doOne_inv {σ : Sr} {t k : Nat} (hS : InvS σ) (ht : t < 4) (hk : k < inN σ t) : InvS (doOne σ t k) := by
  obtain ⟨hn, en, hj⟩ := hS.lists ht
  obtain ⟨q1, q2, q3, q4, -⟩ := hj k hk
  refine hS.fr (fun j hj => doOne_n q4 (by unfold isStr at hj; omega) ht) (fun q => ?_)
  unfold doOne
  split
  · rename_i hc
    obtain ⟨a, ha, e⟩ := q4
    rw [ix_eq e (by omega)]
    by_cases hq : q = lsq σ t k
    · subst hq
      refine Or.inr ⟨hc.1, ?_⟩
      unfold doOn
      rw [su_s]
    · exact Or.inl (doOn_n (by omega) (by omega) (by omega))
  · exact Or.inl rfl
theorem doRow_inv {σ : Sr} {t : Nat} (hS : InvS σ) (ht : t < 4) : ∀ k, k ≤ inN σ t → InvS (doRow σ t k) ∧ ∀ j, (j < 65 ∨ (65 ≤ j ∧ j < 161 ∧ 16 ≤ (j - 65) % 24) ∨ (161 ≤ j ∧ (j - 161) % 11 ≠ 4 ∧ (j - 161) % 11 ≠ 6)) → doRow σ t k j = σ j
  | 0, _ => ⟨hS, fun _ _ => rfl⟩
  | k + 1, hk => by
    obtain ⟨h1, h2⟩ := doRow_inv hS ht k (by omega)
    have hin : inN (doRow σ t k) t = inN σ t := by unfold inN; rw [h2 _ (by omega)]
    obtain ⟨hn, en, hj⟩ := h1.lists ht
    obtain ⟨q1, q2, q3, q4, -⟩ := hj k (by omega)
    exact ⟨doOne_inv h1 ht (by omega), fun j hj2 => by unfold doRow; rw [doOne_n q4 hj2 ht]; exact h2 j hj2⟩
theorem doAllL_inv {σ : Sr} (hS : InvS σ) : ∀ t, t ≤ 4 → InvS (doAllL σ t) ∧ ∀ j, (j < 65 ∨ (65 ≤ j ∧ j < 161 ∧ 16 ≤ (j - 65) % 24) ∨ (161 ≤ j ∧ (j - 161) % 11 ≠ 4 ∧ (j - 161) % 11 ≠ 6)) → doAllL σ t j = σ j
  | 0, _ => ⟨hS, fun _ _ => rfl⟩
  | t + 1, ht => by
    obtain ⟨h1, h2⟩ := doAllL_inv hS t (by omega)
    obtain ⟨g1, g2⟩ := doRow_inv h1 (t := t) (by omega) _ (Nat.le_refl _)
    exact ⟨g1, fun j hj => (g2 j hj).trans (h2 j hj)⟩
section REF3
variable {K : MK} {R : MR} {I : MI} {r : Nat} {σ : Sr}
end REF3
