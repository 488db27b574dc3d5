section NX
variable {K : MK} {R : MR} {I J : MI} {t r b : Nat} {S : St}
theorem CT.tr (h : CT K R t I S) {I' : MI} (hf : ∀ a, (a < t + 239 ∨ t + 477 ≤ a) → I' a = I a) : CT K R t I' S := by
  obtain ⟨h1, h2, h3, h4, h5, ⟨h6, h7⟩, h8, h9, h10, h11, h12, h13⟩ := h
  refine ⟨h1, h2.fr (fun a ha hb => hf a (by omega)), by rw [hf t (by omega)]; exact h3, h4, fun z => (h5 z).fr (fun a ha hb => hf a (by omega)), ⟨h6, by rw [hf t (by omega)]; exact h7⟩, by rw [hf _ (by omega)]; exact h8, by rw [hf _ (by omega)]; exact h9, fun j hj => ?_, h11, by rw [hf _ (by omega)]; exact h12, fun i hi => by rw [hf _ (by omega)]; exact h13 i hi⟩
  rw [hf _ (by omega)]
  exact (h10 j hj).fr (fun a ha hb => hf a (by unfold pastA at ha; omega))
theorem tkN_4 {σ : Sr} (hS : InvS σ) : ∀ n, tkN σ n 4 = σ 4
  | 0 => rfl
  | n + 1 => (tick_4' (tkN_inv hS n)).trans (tkN_4 hS n)
end NX
