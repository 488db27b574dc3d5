/-- an answer goes -/
theorem answersS_inv {σ : Sr} (hS : InvS σ) {t p : Nat} (ht : t < 4) (hp : p < inN σ t) : InvS (answersS σ t p) := by
  have h1 := ansHead_inv hS t p
  have hin : inN (ansHead σ t p) t = inN σ t := by unfold inN; rw [ansHead_n (by omega)]
  have hq : lsq (ansHead σ t p) t p = lsq σ t p := by unfold lsq; rw [ansHead_n (by omega)]
  obtain ⟨hn, en, hl⟩ := h1.lists ht
  obtain ⟨q1, q2, q3, q4, k, k1, k2, k3⟩ := hl p (by omega)
  obtain ⟨g1, g2⟩ := remL_inv h1 ht (p := p) (by omega)
  have hnn : ∀ s, s < 65 + 24 * t + 19 ∨ 65 + 24 * t + 24 ≤ s → remL (ansHead σ t p) t p s = ansHead σ t p s := fun s h => remL_n (by omega) hn h
  rw [hq] at *
  unfold answersS
  refine ansQ_inv g1 ?_ ⟨k, k1, ?_, ?_⟩ q1 g2
  · unfold OnT at q3 ⊢
    rw [hnn _ (by omega)]; exact q3
  · rw [hnn _ (by omega)]; exact k2
  · rw [hnn _ (by omega)]; exact k3
section REF5
variable {K : MK} {R : MR} {I : MI} {r : Nat} {σ : Sr}
theorem stS_r {I : MI} {r : Nat} {σ : Sr} {k : Nat} : stS I r σ r k = I r k := stS_o (by omega)
theorem up_r {I : MI} {r : Nat} {σ : Sr} {k : Nat} {x : Int32} : upI (stS I r σ) r k x = stS (upI I r k x) r σ := up_o (by omega)
end REF5
