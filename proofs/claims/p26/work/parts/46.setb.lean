section SB0
variable {ρ σ : Sr}
theorem RelB.room {t rm : Nat} (h : RelB ρ σ) (ht : t < 4) (h1 : 1 ≤ rm) (h4 : rm ≤ 4) : RelB (su ρ (65 + 24 * t + 16) (nI rm)) (su σ (65 + 24 * t + 16) (nI rm)) := by
  obtain ⟨hS, hM, ⟨g1, g2⟩, hL, hC⟩ := h
  have hn : ∀ j, j ≠ 65 + 24 * t + 16 → su σ (65 + 24 * t + 16) (nI rm) j = σ j := fun j hj => su_n hj
  refine ⟨?_, by rw [hn 2 (by omega)]; exact hM, ⟨?_, ?_⟩, by rw [hn 5 (by omega), su_n (by omega)]; exact hL, hC.fr hS (fun j hj => su_n (by omega)) (hn 1 (by omega)) (hn 4 (by omega)) (fun j hj => hn _ (by omega)) (fun q hq => hn _ (by omega)) (fun q hq => by rw [hn _ (by omega)]) (fun q hq => hn _ (by omega))⟩
  · obtain ⟨T, A, a1, a2, a3, a4, a5, a6, a7, a8, a9, a10, a11⟩ := hS
    refine ⟨T, A, by rw [hn _ (by omega)]; exact a1, a2, a3, by rw [hn _ (by omega)]; exact a4, a5, by rw [hn _ (by omega)]; exact a6, by rw [hn _ (by omega)]; exact a7, fun k hk => (a8 k hk).fr (hn _ (by omega)) (Nat.le_refl _), fun m hm => (a9 m hm).fr (fun w hw' => hn _ (by omega)) (fun L j q g0 g1 g2 g3 g4 g5 => ⟨by rw [hn _ (by omega)]; exact g5, hn _ (by omega)⟩) (Nat.le_refl _), fun t' ht' => ?_, fun q hq => (a11 q hq).fr (fun w hw' => hn _ (by omega))⟩
    by_cases e : t' = t
    · subst e
      obtain ⟨n, r0, b1, b2, b3, b4, b5, b6⟩ := a10 t' ht
      refine ⟨n, rm, b1, by rw [hn _ (by omega)]; exact b2, h1, h4, by rw [su_s], fun j hj => ?_⟩
      obtain ⟨q, k, c1, c2, c3, c4, c5, c6, c7, c8⟩ := b6 j hj
      exact ⟨q, k, c1, by rw [hn _ (by omega)]; exact c2, by unfold OnT at c3 ⊢; rw [hn _ (by omega)]; exact c3, by rw [hn _ (by omega)]; exact c4, c5, by rw [hn _ (by omega)]; exact c6, by rw [hn _ (by omega)]; exact c7, fun i hi => by rw [hn _ (by omega)]; exact c8 i hi⟩
    · exact (a10 t' ht').fr (fun w hw' => hn _ (by omega)) (fun n j q k g0 g1 g2 g3 g4 g5 g6 g7 g8 => ⟨by unfold OnT at g5 ⊢; rw [hn _ (by omega)]; exact g5, hn _ (by omega), hn _ (by omega), hn _ (by omega)⟩) (Nat.le_refl _)
  · rw [hn 4 (by omega)]; exact g1.both
  · rw [hn 4 (by omega)]
    refine g2.fr (fun q hq ho => ⟨?_, su_n (by omega), hn _ (by omega)⟩)
    unfold OnT at ho ⊢
    rw [hn _ (by omega)] at ho
    exact ho
theorem RelB.manner {x : Int32} (h : RelB ρ σ) (hx : x = 0 ∨ x = 1 ∨ x = 2) : RelB (su ρ 2 x) (su σ 2 x) := by
  obtain ⟨hS, hM, ⟨g1, g2⟩, hL, hC⟩ := h
  have hn : ∀ j, j ≠ 2 → su σ 2 x j = σ j := fun j hj => su_n hj
  refine ⟨hS.fr (fun j hj => hn j (by unfold isStr at hj; omega)) (fun q => Or.inl (hn _ (by omega))), by rw [su_s]; exact hx, ⟨?_, ?_⟩, by rw [hn 5 (by omega), su_n (by omega)]; exact hL, hC.fr hS (fun j hj => su_n (by omega)) (hn 1 (by omega)) (hn 4 (by omega)) (fun j hj => hn _ (by omega)) (fun q hq => hn _ (by omega)) (fun q hq => by rw [hn _ (by omega)]) (fun q hq => hn _ (by omega))⟩
  · rw [hn 4 (by omega)]; exact g1.both
  · rw [hn 4 (by omega)]
    refine g2.fr (fun q hq ho => ⟨?_, su_n (by omega), hn _ (by omega)⟩)
    unfold OnT at ho ⊢
    rw [hn _ (by omega)] at ho
    exact ho
theorem cnt_ext {p : Nat → Bool} {n : Nat} : ∀ d, (∀ k, n ≤ k → k < n + d → p k = false) → cnt p (n + d) = cnt p n
  | 0, _ => rfl
  | d + 1, h => by
    rw [← Nat.add_assoc, cnt_f (h (n + d) (by omega) (by omega))]
    exact cnt_ext d (fun k a b => h k a (by omega))
theorem cnt_max {p : Nat → Bool} {n m : Nat} (h1 : ∀ k, n ≤ k → k < m → p k = false) (h2 : ∀ k, m ≤ k → k < n → p k = false) : cnt p m = cnt p n := by
  rcases Nat.le_total n m with c | c
  · obtain ⟨d, rfl⟩ := Nat.exists_eq_add_of_le c
    exact cnt_ext d (fun k a b => h1 k a b)
  · obtain ⟨d, rfl⟩ := Nat.exists_eq_add_of_le c
    exact (cnt_ext d (fun k a b => h2 k a b)).symm
theorem RelB.tags {T' : Nat} (h : RelB ρ σ) (h1 : 1 ≤ T') (h8 : T' ≤ 8) (hl : ∀ k, T' ≤ k → k < 8 → σ (13 + k) = -5) : RelB (su ρ 1 (nI T')) (su σ 1 (nI T')) := by
  obtain ⟨hS, hM, ⟨g1, g2⟩, hL, hC⟩ := h
  have hn : ∀ j, j ≠ 1 → su σ 1 (nI T') j = σ j := fun j hj => su_n hj
  have hS0 := hS
  obtain ⟨hT, -, hT8⟩ := hS.T1
  obtain ⟨T, A, a1, a2, a3, a4, a5, a6, a7, a8, a9, a10, a11⟩ := hS
  have hTT : Tg_ σ = T := ix_eq a1 (by omega)
  have hT' : Tg_ (su σ 1 (nI T')) = T' := by unfold Tg_; rw [su_s, ix_nI (by omega)]
  refine ⟨⟨T', A, su_s _ _ _, h1, h8, by rw [hn _ (by omega)]; exact a4, a5, by rw [hn _ (by omega)]; exact a6, by rw [hn _ (by omega)]; exact a7, fun k hk => ?_, fun m hm => (a9 m hm).fr (fun w hw' => hn _ (by omega)) (fun L j q g0 g1 g2 g3 g4 g5 => ⟨by rw [hn _ (by omega)]; exact g5, hn _ (by omega)⟩) (Nat.le_refl _), fun t ht => (a10 t ht).fr (fun w hw' => hn _ (by omega)) (fun n j q k g0 g1 g2 g3 g4 g5 g6 g7 g8 => ⟨by unfold OnT at g5 ⊢; rw [hn _ (by omega)]; exact g5, hn _ (by omega), hn _ (by omega), hn _ (by omega)⟩) (Nat.le_refl _), fun q hq => (a11 q hq).fr (fun w hw' => hn _ (by omega))⟩, by rw [hn 2 (by omega)]; exact hM, ⟨?_, ?_⟩, by rw [hn 5 (by omega), su_n (by omega)]; exact hL, ?_⟩
  · unfold LentOK
    rw [hn _ (by omega)]
    rcases a8 k hk with e | ⟨e, q⟩
    · exact Or.inl e
    · by_cases c : T' ≤ k
      · exact Or.inl (hl k c hk)
      · exact Or.inr ⟨by omega, q⟩
  · rw [hn 4 (by omega)]; exact g1.both
  · rw [hn 4 (by omega)]
    refine g2.fr (fun q hq ho => ⟨?_, su_n (by omega), hn _ (by omega)⟩)
    unfold OnT at ho ⊢
    rw [hn _ (by omega)] at ho
    exact ho
  · intro m hm
    obtain ⟨c1, c2, c3⟩ := hC m hm
    rw [su_n (by omega), su_n (by omega), su_n (by omega), c1, c2, c3]
    have hb : ∀ k, heldBy (su σ 1 (nI T')) m k = heldBy σ m k := fun k => by
      unfold heldBy
      rw [hn _ (by omega), hn _ (by omega)]
    have hd : ∀ k, k < 8 → σ (13 + k) = -5 → heldBy σ m k = false := fun k hk e => by unfold heldBy; rw [e]; rfl
    have h3 : ∀ q, ansB3 (su σ 1 (nI T')) m q = ansB3 σ m q := fun q => ansB3_fr (hn _ (by omega)) (by rw [hn _ (by omega)])
    refine ⟨?_, ?_, ?_⟩
    · unfold holdsN
      rw [hT', cnt_congr _ (fun k _ => hb k)]
      rw [cnt_max (n := Tg_ σ) (m := T') (fun k a b => hd k (by omega) ?_) (fun k a b => hd k (by omega) (hl k a (by omega)))]
      rcases a8 k (by omega) with e | ⟨e, -⟩
      · exact e
      · omega
    · unfold ansN
      rw [hn 4 (by omega), cnt_congr _ (fun q _ => h3 q)]
    · rw [hn 4 (by omega)]
      exact (lonL_congr _ (fun q _ => ⟨h3 q, fun _ => hn _ (by omega)⟩)).symm
end SB0
section SB
variable {K : MK} {R : MR} {I J : MI} {t r b : Nat} {S : St}
end SB
