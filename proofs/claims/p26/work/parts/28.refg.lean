theorem full_not {σ : Sr} (hS : InvS σ) {t : Nat} (ht : t < 4) (h : ¬ full σ t) : inN σ t < 4 := by
  obtain ⟨T, A, a1, a2, a3, a4, a5, a6, a7, a8, a9, a10, a11⟩ := hS
  obtain ⟨n, rm, hn, e, r1, r2, r3, -⟩ := a10 t ht
  have en : inN σ t = n := ix_eq e (by omega)
  unfold full at h
  rw [Classical.not_not, e, r3] at h
  have := (nI_ltI (by omega) (by omega)).mp h
  omega
theorem tgt0_ok {σ : Sr} (hS : InvS σ) {m : Nat} (hm : m < 4) (h1 : 1 ≤ loN σ m) : tgt0 σ m < 4 ∧ σ (161 + 11 * rwq σ m 0 + 1) = nI (tgt0 σ m) := by
  obtain ⟨hn, en, hl⟩ := hS.rows hm
  obtain ⟨p1, p2, p3, p4, p5, ⟨-, ⟨t, ht, e⟩, -⟩, p7⟩ := hl 0 (by omega)
  unfold tgt0
  rw [ix_eq e (by omega)]
  exact ⟨ht, e⟩
theorem goneS_inv {σ : Sr} (hS : InvS σ) {m : Nat} (hm : m < 4) (h1 : 1 ≤ loN σ m) (hf : (freeO σ).isSome = true) (hfu : ¬ full σ (tgt0 σ m)) : InvS (goneS σ m) := by
  obtain ⟨hn, en, hl⟩ := hS.rows hm
  obtain ⟨p1, p2, p3, p4, p5, p6, p7⟩ := hl 0 (by omega)
  obtain ⟨ht, et⟩ := tgt0_ok hS hm h1
  have hin := full_not hS ht hfu
  have hh := sndHead_inv hS m
  have hlo : loN (sndHead σ m) m = loN σ m := by unfold loN; rw [sndHead_n (by omega)]
  have hrq : rwq (sndHead σ m) m 0 = rwq σ m 0 := by unfold rwq; rw [sndHead_n (by omega)]
  obtain ⟨r1, r2⟩ := remR_inv hh hm (by omega)
  have hfh := freeO_head (σ := σ) (m := m)
  cases hfo : freeO σ with
  | none => rw [hfo] at hf; cases hf
  | some g =>
    obtain ⟨g1, g2⟩ := freeO_lt hfo
    unfold goneS
    rw [hfh, hfo]
    show InvS (sndQ (remR (sndHead σ m) m) m (rwq σ m 0) (tgt0 σ m) g)
    have hrr : ∀ s, s < 21 + 11 * m ∨ 21 + 11 * m + 7 ≤ s → remR (sndHead σ m) m s = sndHead σ m s := fun s h => remR_n (by omega) h
    have hT : Tg_ σ ≤ 8 := by
      obtain ⟨T, e1, e2, e3⟩ := hS.T
      have : Tg_ σ = T := ix_eq e1 (by omega)
      omega
    rw [hrq] at r2
    have s1 := sndQ0_inv r1 (m := m) (q := rwq σ m 0) (t := tgt0 σ m) (g := g) hm (by rw [hrr _ (by omega), sndHead_n (by omega)]; exact p2) (by unfold Tg_; rw [hrr _ (by omega), sndHead_n (by omega)]; exact g1) (by rw [hrr _ (by omega), sndHead_n (by omega)]; exact g2) (by rw [hrr _ (by omega), sndHead_n (by omega)]; exact p4) r2
    have hs0 : ∀ s, (s ≠ 5 ∧ s ≠ 7) → (s < 21 + 11 * m ∨ 21 + 11 * m + 7 ≤ s) → (s ≠ 21 + 11 * m + 8 ∧ s ≠ 13 + g ∧ s ≠ 161 + 11 * rwq σ m 0 + 5 ∧ s ≠ 161 + 11 * rwq σ m 0 + 4 ∧ s ≠ 161 + 11 * rwq σ m 0 + 10) → sndQ0 (remR (sndHead σ m) m) m (rwq σ m 0) (tgt0 σ m) g s = σ s := fun s a b c => by rw [sndQ0_n c, hrr s b, sndHead_n a]
    have hi0 : inN (sndQ0 (remR (sndHead σ m) m) m (rwq σ m 0) (tgt0 σ m) g) (tgt0 σ m) = inN σ (tgt0 σ m) := by unfold inN; rw [hs0 _ (by omega) (by omega) (by omega)]
    have s2 := appL_inv s1 (t := tgt0 σ m) (q := rwq σ m 0) (g := g) ht (by rw [hs0 _ (by omega) (by omega) (by omega)]; exact p2) (by omega) (Or.inl (by unfold sndQ0 sndQa; rw [su_n (by omega), su_s])) (by rw [hs0 _ (by omega) (by omega) (by omega)]; exact et) (by omega) (by unfold sndQ0 sndQa; rw [su_n (by omega), su_n (by omega), su_s]) (by unfold sndQ0 sndQa; rw [su_n (by omega), su_n (by omega), su_n (by omega), su_s]) (fun j hj => by
      obtain ⟨-, -, hll⟩ := hS.lists ht
      obtain ⟨w1, w2, w3, -⟩ := hll j (by omega)
      rw [hs0 _ (by omega) (by omega) (by omega), w2]
      intro z
      have z2 := nI_inj (by omega) (by omega) z
      rw [z2] at w3
      unfold OnT at w3
      rw [p4] at w3
      rcases w3 with w3 | w3 <;> exact absurd w3 (by decide))
    unfold sndQ
    exact s2.fr (fun k hk => su_n (by unfold isStr at hk; omega)) (fun q => Or.inl (su_n (by omega)))
theorem backS_inv {σ : Sr} (hS : InvS σ) {m : Nat} (hm : m < 4) : InvS (backS σ m) := refS_inv (sndHead_inv hS m) hm
section REF6
variable {K : MK} {R : MR} {I : MI} {r : Nat} {σ : Sr}
end REF6
