section SD
variable {K : MK} {R : MR} {I J : MI} {t r b : Nat} {S : St}
def LF (σ : Sr) (z : Int32) : Prop := ∃ T' : Nat, z = nI T' ∧ 1 ≤ T' ∧ T' ≤ 8 ∧ ∀ k, k < 8 → T' ≤ k → σ (13 + k) = -5
end SD
