section SF
variable {K : MK} {R : MR} {I J : MI} {t r b : Nat} {S : St}
theorem bus5 {σ : Sr} (h : RelB (rowB I b) σ) : I b 5 = nI (ix (σ 4)) ∧ ix (σ 4) ≤ 200 := by
  obtain ⟨hA4, hA⟩ := h.1.A4
  have e := r_b_q (J := I) (b := b) (ρ := rowB I b)
  rw [stB_self] at e
  exact ⟨by rw [e, h.2.2.1.1 4 (by omega) (by omega) (by omega)]; exact hA4, hA⟩
theorem bus6 {σ : Sr} (h : RelB (rowB I b) σ) : I b 6 = σ 0 := by
  have e := r_b_tk (J := I) (b := b) (ρ := rowB I b)
  rw [stB_self] at e
  rw [e, h.2.2.1.1 0 (by omega) (by omega) (by omega)]
def mixS (n : Nat) (f σ : Sr) : Sr := fun k => if k < n then f k else σ k
theorem mixS_0 (f σ : Sr) : mixS 0 f σ = σ := by funext k; unfold mixS; rw [if_neg (by omega)]
theorem mixS_up (f σ : Sr) (n : Nat) : (fun j => if j = n then f n else mixS n f σ j) = mixS (n + 1) f σ := by
  funext j
  unfold mixS
  by_cases e : j = n
  · subst e; rw [if_pos rfl, if_pos (by omega)]
  · rw [if_neg e]
    by_cases c : j < n
    · rw [if_pos c, if_pos (by omega)]
    · rw [if_neg c, if_neg (by omega)]
theorem mixS_eq {f σ : Sr} {n k : Nat} (h : k < n) : mixS n f σ k = f k := by unfold mixS; rw [if_pos h]
theorem stA_stA {a : Nat} {f g : Nat → Int32} : stA (stA I a f) a g = stA I a g := by
  funext c j
  by_cases h : c = a <;> simp [stA, h]
/-- the live bus of the class, copied over -/
theorem CT.over (h : CT K R t I S) {τ : Sr} {I' : MI} (hf : ∀ c, c < t + 1 ∨ t + 1 + 238 ≤ c → I' c = I c) (hr : RelB (rowB I' (t + 1)) τ) : CT K R t I' (S.wσ τ) := by
  obtain ⟨h1, h2, h3, h4, h5, ⟨h6, h7⟩, h8, h9, h10, h11, h12, h13⟩ := h
  refine ⟨h1, hr, by rw [hf t (by omega)]; exact h3, h4, fun z => (h5 z).fr (fun a ha hb => hf a (by omega)), ⟨h6, by rw [hf t (by omega)]; exact h7⟩, by rw [hf _ (by omega)]; exact h8, by rw [hf _ (by omega)]; exact h9, fun j hj => ?_, h11, by rw [hf _ (by omega)]; exact h12, fun i hi => by rw [hf _ (by omega)]; exact h13 i hi⟩
  rw [hf _ (by omega)]
  exact (h10 j hj).fr (fun a ha hb => hf a (by unfold pastA at ha; omega))
def St.pop (S : St) (τ : Sr) : St := (τ, S.kp, S.κ, S.c - 1, S.hs, S.len, S.tx)
end SF
