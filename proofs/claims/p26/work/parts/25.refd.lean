theorem InvS.fr2 {σ τ : Sr} (h : InvS σ) (hs : ∀ k, isStr k → k ≠ 6 → k ≠ 7 → τ k = σ k) (h6 : ∃ t, t < 4 ∧ τ 6 = nI t) (h7 : ∃ m, m < 4 ∧ τ 7 = nI m) (hw : ∀ q, τ (161 + 11 * q + 4) = σ (161 + 11 * q + 4) ∨ (σ (161 + 11 * q + 4) = 1 ∧ τ (161 + 11 * q + 4) = 2)) : InvS τ := by
  have h' : InvS (su (su τ 6 (σ 6)) 7 (σ 7)) := h.fr (fun k hk => by
    by_cases e7 : k = 7
    · subst e7; rw [su_s]
    · rw [su_n e7]
      by_cases e6 : k = 6
      · subst e6; rw [su_s]
      · rw [su_n e6]; exact hs k hk e6 e7) (fun q => by rw [su_n (by omega), su_n (by omega)]; exact hw q)
  obtain ⟨T, A, a1, a2, a3, a4, a5, a6, a7, a8, a9, a10, a11⟩ := h'
  have hn : ∀ k, k ≠ 6 → k ≠ 7 → τ k = su (su τ 6 (σ 6)) 7 (σ 7) k := fun k e6 e7 => by rw [su_n e7, su_n e6]
  refine ⟨T, A, by rw [hn _ (by omega) (by omega)]; exact a1, a2, a3, by rw [hn _ (by omega) (by omega)]; exact a4, a5, h6, h7, fun k hk => (a8 k hk).fr (hn _ (by omega) (by omega)) (Nat.le_refl _), fun m hm => (a9 m hm).fr (fun w hw' => hn _ (by omega) (by omega)) (fun L j q g0 g1 g2 g3 g4 g5 => ⟨by rw [hn _ (by omega) (by omega)]; exact g5, hn _ (by omega) (by omega)⟩) (Nat.le_refl _), fun t ht => (a10 t ht).fr (fun w hw' => hn _ (by omega) (by omega)) (fun n j q k g0 g1 g2 g3 g4 g5 g6 g7 g8 => ⟨by unfold OnT at g5 ⊢; rw [hn _ (by omega) (by omega)]; exact g5, hn _ (by omega) (by omega), hn _ (by omega) (by omega), hn _ (by omega) (by omega)⟩) (Nat.le_refl _), fun q hq => (a11 q hq).fr (fun w hw' => hn _ (by omega) (by omega))⟩
theorem InvS.lists2 {σ : Sr} (h : InvS σ) {t : Nat} (ht : t < 4) {j : Nat} (hj : j < inN σ t) : lsq σ t j < ix (σ 4) ∧ σ (161 + 11 * lsq σ t j + 1) = nI t ∧ ∀ i, i < j → σ (65 + 24 * t + 20 + i) ≠ nI (lsq σ t j) := by
  obtain ⟨T, A, a1, a2, a3, a4, a5, a6, a7, a8, a9, a10, a11⟩ := h
  obtain ⟨n, rm, hn, e, r1, r2, r3, hj'⟩ := a10 t ht
  have en : inN σ t = n := ix_eq e (by omega)
  obtain ⟨q, k, hq, e1, e2, e3, e4, e5, e6, e7⟩ := hj' j (by omega)
  have eq : lsq σ t j = q := ix_eq e1 (by omega)
  rw [eq, ix_eq a4 (by omega)]
  exact ⟨hq, e3, e7⟩
theorem InvS.lap {σ : Sr} (h : InvS σ) {t : Nat} (ht : t < 4) {i j : Nat} (hi : i < inN σ t) (hj : j < inN σ t) (hij : i ≠ j) : lsq σ t i ≠ lsq σ t j := by
  obtain ⟨-, -, hl⟩ := h.lists ht
  intro e
  rcases Nat.lt_or_gt_of_ne hij with q | q
  · exact (h.lists2 ht hj).2.2 i q (by rw [(hl i hi).2.1, e])
  · exact (h.lists2 ht hi).2.2 j q (by rw [(hl j hj).2.1, e])
/-- a shift in a list -/
def shf (τ : Sr) (b p : Nat) : Nat → Sr
  | 0 => τ
  | i + 1 => su (shf τ b p i) (b + (p + i)) (shf τ b p i (b + (p + i) + 1))
theorem shf_out {τ : Sr} {b p : Nat} : ∀ (i : Nat) {s : Nat}, (∀ j, p ≤ j → j < p + i → s ≠ b + j) → shf τ b p i s = τ s
  | 0, s, _ => rfl
  | i + 1, s, h => by
    unfold shf
    rw [su_n (h (p + i) (by omega) (by omega))]
    exact shf_out i (fun j h1 h2 => h j h1 (by omega))
theorem shf_in {τ : Sr} {b p : Nat} : ∀ (i : Nat) {j : Nat}, p ≤ j → j < p + i → shf τ b p i (b + j) = τ (b + j + 1)
  | 0, j, h1, h2 => by omega
  | i + 1, j, h1, h2 => by
    unfold shf
    by_cases e : j = p + i
    · subst e
      rw [su_s]
      exact shf_out i (fun j h1 h2 => by omega)
    · rw [su_n (by omega)]
      exact shf_in i h1 (by omega)
def remL (τ : Sr) (t p : Nat) : Sr := su (shf τ (65 + 24 * t + 20) p (inN τ t - 1 - p)) (65 + 24 * t + 19) (shf τ (65 + 24 * t + 20) p (inN τ t - 1 - p) (65 + 24 * t + 19) - 1)
theorem nI_sub1 {n : Nat} (h : 1 ≤ n) : nI n - 1 = nI (n - 1) := pk_sub h
theorem remL_n {σ : Sr} {t p s : Nat} (hp : p < inN σ t) (hn : inN σ t ≤ 4) (h : s < 65 + 24 * t + 19 ∨ 65 + 24 * t + 24 ≤ s) : remL σ t p s = σ s := by
  unfold remL
  rw [su_n (by omega)]
  exact shf_out _ (fun j h1 h2 => by omega)
theorem remL_at {σ : Sr} (hS : InvS σ) {t p : Nat} (ht : t < 4) (hp : p < inN σ t) : remL σ t p (65 + 24 * t + 19) = nI (inN σ t - 1) ∧ ∀ j, j < inN σ t - 1 → remL σ t p (65 + 24 * t + 20 + j) = σ (65 + 24 * t + 20 + (if j < p then j else j + 1)) := by
  obtain ⟨hn, en, hl⟩ := hS.lists ht
  refine ⟨?_, fun j hj => ?_⟩
  · unfold remL
    rw [su_s, shf_out _ (fun j h1 h2 => by omega), en, nI_sub1 (by omega)]
  · unfold remL
    rw [su_n (by omega)]
    split
    · exact shf_out _ (fun i h1 h2 => by omega)
    · rw [shf_in _ (by omega) (by omega)]
      rfl
theorem remL_inv {σ : Sr} (hS : InvS σ) {t p : Nat} (ht : t < 4) (hp : p < inN σ t) : InvS (remL σ t p) ∧ ∀ t', t' < 4 → ∀ j, j < inN (remL σ t p) t' → remL σ t p (65 + 24 * t' + 20 + j) ≠ nI (lsq σ t p) := by
  obtain ⟨hn, en, hl⟩ := hS.lists ht
  obtain ⟨e1, e2⟩ := remL_at hS ht hp
  have hin : inN (remL σ t p) t = inN σ t - 1 := ix_eq e1 (by omega)
  have hS' := hS
  obtain ⟨T, A, a1, a2, a3, a4, a5, a6, a7, a8, a9, a10, a11⟩ := hS
  have hnn : ∀ s, s < 65 + 24 * t + 19 ∨ 65 + 24 * t + 24 ≤ s → remL σ t p s = σ s := fun s h => remL_n hp hn h
  have hA : ix (σ 4) = A := ix_eq a4 (by omega)
  refine ⟨⟨T, A, by rw [hnn _ (by omega)]; exact a1, a2, a3, by rw [hnn _ (by omega)]; exact a4, a5, by rw [hnn _ (by omega)]; exact a6, by rw [hnn _ (by omega)]; exact a7, fun k hk => (a8 k hk).fr (hnn _ (by omega)) (Nat.le_refl _), fun m hm => (a9 m hm).fr (fun w hw' => hnn _ (by omega)) (fun L j q g0 g1 g2 g3 g4 g5 => ⟨by rw [hnn _ (by omega)]; exact g5, hnn _ (by omega)⟩) (Nat.le_refl _), fun t' ht' => ?_, fun q hq => (a11 q hq).fr (fun w hw' => hnn _ (by omega))⟩, fun t' ht' j hj => ?_⟩
  · by_cases e : t' = t
    · subst e
      obtain ⟨n, rm, hn2, en2, r1, r2, r3, hj'⟩ := a10 t' ht
      refine ⟨inN σ t' - 1, rm, by omega, e1, r1, r2, by rw [hnn _ (by omega)]; exact r3, fun j hj => ?_⟩
      rw [e2 j hj]
      have hj2 : (if j < p then j else j + 1) < inN σ t' := by split <;> omega
      obtain ⟨q1, q2, q3, q4, k, k1, k2, k3⟩ := hl _ hj2
      obtain ⟨w1, w2, w3⟩ := hS'.lists2 ht hj2
      refine ⟨lsq σ t' (if j < p then j else j + 1), k, by omega, q2, ?_, by rw [hnn _ (by omega)]; exact w2, k1, by rw [hnn _ (by omega)]; exact k2, by rw [hnn _ (by omega)]; exact k3, fun i hi => ?_⟩
      · unfold OnT at q3 ⊢
        rw [hnn _ (by omega)]; exact q3
      · rw [e2 i (by omega)]
        have hi2 : (if i < p then i else i + 1) < inN σ t' := by split <;> omega
        rw [(hl _ hi2).2.1]
        intro z
        have := hS'.lap ht hi2 hj2 (by split <;> split <;> omega)
        exact this (nI_inj (by have := (hl _ hi2).1; omega) (by omega) z)
    · exact (a10 t' ht').fr (fun w hw' => hnn _ (by omega)) (fun n j q k g0 g1 g2 g3 g4 g5 g6 g7 g8 => ⟨by unfold OnT at g5 ⊢; rw [hnn _ (by omega)]; exact g5, hnn _ (by omega), hnn _ (by omega), hnn _ (by omega)⟩) (Nat.le_refl _)
  · by_cases e : t' = t
    · subst e
      rw [e2 j (by omega)]
      have hj2 : (if j < p then j else j + 1) < inN σ t' := by split <;> omega
      rw [(hl _ hj2).2.1]
      intro z
      have := hS'.lap ht hj2 hp (by split <;> omega)
      exact this (nI_inj (by have := (hl _ hj2).1; omega) (by have := (hl _ hp).1; omega) z)
    · have hj2 : j < inN σ t' := by
        have : inN (remL σ t p) t' = inN σ t' := by unfold inN; rw [hnn _ (by omega)]
        omega
      obtain ⟨hn', -, hl'⟩ := hS'.lists ht'
      rw [hnn _ (by omega)]
      rw [(hl' j hj2).2.1]
      intro z
      have z2 := nI_inj (by have := (hl' j hj2).1; omega) (by have := (hl p hp).1; omega) z
      have w1 := (hS'.lists2 ht' hj2).2.1
      have w2 := (hS'.lists2 ht hp).2.1
      rw [z2, w2] at w1
      exact e (nI_inj (by omega) (by omega) w1).symm
def ansHead (σ : Sr) (t p : Nat) : Sr := su (su (su (su σ 6 (nI (t4 t 1))) 5 1) 8 (su (su σ 6 (nI (t4 t 1))) 5 1 8 + 1)) 12 (su (su (su σ 6 (nI (t4 t 1))) 5 1) 8 (su (su σ 6 (nI (t4 t 1))) 5 1 8 + 1) 12 + (if 0 < p then 1 else 0))
def ansQ0 (τ : Sr) (q : Nat) : Sr := su (su (su τ (13 + ix (τ (161 + 11 * q + 5))) (-5)) (161 + 11 * q + 5) (-5)) (161 + 11 * q + 4) 3
def ansQ (τ : Sr) (q : Nat) : Sr := su (ansQ0 τ q) (161 + 11 * q + 8) (ansQ0 τ q 0 - ansQ0 τ q (161 + 11 * q + 7))
def answersS (σ : Sr) (t p : Nat) : Sr := ansQ (remL (ansHead σ t p) t p) (lsq σ t p)
theorem ansHead_n {σ : Sr} {t p s : Nat} (h : s ≠ 5 ∧ s ≠ 6 ∧ s ≠ 8 ∧ s ≠ 12) : ansHead σ t p s = σ s := by
  unfold ansHead
  rw [su_n h.2.2.2, su_n h.2.2.1, su_n h.1, su_n h.2.1]
theorem ansHead_inv {σ : Sr} (hS : InvS σ) (t p : Nat) : InvS (ansHead σ t p) := by
  obtain ⟨h1, h2, h3, h4⟩ := hS.turns
  refine hS.fr2 (fun k hk h6 h7 => ansHead_n (by unfold isStr at hk; omega)) ⟨t4 t 1, t4_lt _ _, ?_⟩ ⟨_, h3, ?_⟩ (fun q => Or.inl (ansHead_n (by omega)))
  · unfold ansHead
    rw [su_n (by omega), su_n (by omega), su_n (by omega), su_s]
  · rw [ansHead_n (by omega)]; exact h4
theorem ansQ_n {τ : Sr} {q s : Nat} (h1 : s ≠ 13 + ix (τ (161 + 11 * q + 5))) (h2 : s ≠ 161 + 11 * q + 5) (h3 : s ≠ 161 + 11 * q + 4) (h4 : s ≠ 161 + 11 * q + 8) : ansQ τ q s = τ s := by
  unfold ansQ ansQ0
  rw [su_n h4, su_n h3, su_n h2, su_n h1]
theorem ansQ_inv {τ : Sr} {q : Nat} (hS : InvS τ) (hq : OnT τ q) (hk : ∃ k, k < 8 ∧ τ (161 + 11 * q + 5) = nI k ∧ τ (13 + k) = nI q) (hq2 : q < 200) (hno : ∀ t, t < 4 → ∀ j, j < inN τ t → τ (65 + 24 * t + 20 + j) ≠ nI q) : InvS (ansQ τ q) := by
  obtain ⟨k, k1, k2, k3⟩ := hk
  have hx : ix (τ (161 + 11 * q + 5)) = k := ix_eq k2 (by omega)
  have hn : ∀ s, s ≠ 13 + k → s ≠ 161 + 11 * q + 5 → s ≠ 161 + 11 * q + 4 → s ≠ 161 + 11 * q + 8 → ansQ τ q s = τ s := fun s h1 h2 h3 h4 => ansQ_n (by rw [hx]; exact h1) h2 h3 h4
  obtain ⟨T, A, a1, a2, a3, a4, a5, a6, a7, a8, a9, a10, a11⟩ := hS
  refine ⟨T, A, by rw [hn _ (by omega) (by omega) (by omega) (by omega)]; exact a1, a2, a3, by rw [hn _ (by omega) (by omega) (by omega) (by omega)]; exact a4, a5, by rw [hn _ (by omega) (by omega) (by omega) (by omega)]; exact a6, by rw [hn _ (by omega) (by omega) (by omega) (by omega)]; exact a7, fun k' hk' => ?_, fun m hm => (a9 m hm).fr (fun w hw' => hn _ (by omega) (by omega) (by omega) (by omega)) (fun L j q' g0 g1 g2 g3 g4 g5 => ?_) (Nat.le_refl _), fun t ht => (a10 t ht).fr (fun w hw' => hn _ (by omega) (by omega) (by omega) (by omega)) (fun n j q' k' g0 g1 g2 g3 g4 g5 g6 g7 g8 => ?_) (Nat.le_refl _), fun q' hq' => (a11 q' hq').fr (fun w hw' => hn _ (by omega) (by omega) (by omega) (by omega))⟩
  · by_cases e : k' = k
    · subst e
      refine Or.inl ?_
      unfold ansQ ansQ0
      rw [su_n (by omega), su_n (by omega), su_n (by omega), hx, su_s]
    · exact (a8 k' hk').fr (hn _ (by omega) (by omega) (by omega) (by omega)) (Nat.le_refl _)
  · have hne : q' ≠ q := by
      intro e
      subst e
      rcases hq with h | h <;> rw [g5] at h <;> exact absurd h (by decide)
    exact ⟨by rw [hn _ (by omega) (by omega) (by omega) (by omega)]; exact g5, hn _ (by omega) (by omega) (by omega) (by omega)⟩
  · have hin : inN τ t = n := ix_eq g1 (by omega)
    have hne : q' ≠ q := fun e => hno t ht j (by omega) (by rw [g4, e])
    have hk' : k' ≠ k := fun e => by
      subst e
      rw [k3] at g8
      exact hne (nI_inj (by omega) (by omega) g8.symm)
    exact ⟨by unfold OnT at g5 ⊢; rw [hn _ (by omega) (by omega) (by omega) (by omega)]; exact g5, hn _ (by omega) (by omega) (by omega) (by omega), hn _ (by omega) (by omega) (by omega) (by omega), hn _ (by omega) (by omega) (by omega) (by omega)⟩
