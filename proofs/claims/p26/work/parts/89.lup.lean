section LUP
variable {K : MK} {R : MR} {t : Nat} {b L : Nat} {xs : Nat → Int32}
theorem k_cell {I : MI} {Q : Int32 → MI → Prop} {k : Nat} (hL : L < 2 ^ 31) (hk : k < 2 ^ 31) (h : ∀ v, Q v I) : w_L_cell K R b L xs (nI k) I Q := by
  unfold w_L_cell w_L_cell_b24
  refine ⟨fun _ => h _, fun z => ⟨vp_in_nI ?_ hL, h _⟩⟩
  rcases Nat.lt_or_ge k L with c | c
  · exact c
  · exact absurd ((nI_leI hL hk).mpr c) z
theorem low_nI (x : Int32) {A : Nat} (h1 : 1 ≤ A) (hA : A < 2 ^ 31) : ∃ q, q < A ∧ (x &&& 2147483647) - (x &&& 2147483647) / nI A * nI A = nI q := by
  obtain ⟨j, hj, e⟩ := pk_andE x (m := 2147483647) 31 (by decide)
  exact ⟨j % A, Nat.mod_lt _ h1, by rw [e]; exact pk_rem hj h1 hA⟩
theorem law_loop {Q : Prop} {kc ks n : Nat} (hL : L < 2 ^ 31) (hkc : kc ≤ 600000) (hks : ks ≤ 7302250) (hQ : Q) {I : MI} {S : St} (hC : CT K R t I S) (hJ : Jn 0 S.σ) : w_L_law_b10 b L xs Q t 0 kc ks n K R I := by
  unfold w_L_law_b10
  intro X hX
  have key : ∀ d k I S, k + d = 48 → CT K R t I S → Jn (99 * k) S.σ → X t (nI k) kc ks n K R I := by
    intro d
    induction d with
    | zero =>
      intro k I S hk hC hJ
      have hk2 : k = 48 := by omega
      subst hk2
      refine hX _ _ _ _ _ _ _ _ ?_
      unfold w_L_law_b10_body
      exact ⟨fun _ => ⟨hkc, hks, hQ⟩, fun z => absurd (show (48 : Int32) ≤ nI 48 by decide) z⟩
    | succ d ih =>
      intro k I S hk hC hJ
      refine hX _ _ _ _ _ _ _ _ ?_
      unfold w_L_law_b10_body
      refine ⟨fun z => absurd ((nI_leI (a := 48) (by omega) (by omega)).mp z) (by omega), fun _ => ⟨hkc, hks, k_cell hL (by omega) (fun v => ⟨hkc, hks, k_does hC hJ (by omega) (fun v30 I29 S1 hC1 hJ1 hv => ⟨fun z => absurd z (Int32.not_lt.mpr hv), fun _ => ⟨hkc, hks, k_areTags hC1 hJ1.2.1 ⟨fun z => absurd z z10, fun _ => ⟨hkc, hks, k_areRows hC1 hJ1.1 hJ1.2.1 hJ1.2.2.1 ⟨fun z => absurd z z10, fun _ => ?_⟩⟩⟩⟩⟩)⟩)⟩⟩
      have b101 : ∀ I2 S2, CT K R t I2 S2 → S2.σ = S1.σ → X t (nI k + 1) kc ks n K R I2 := fun I2 S2 h2 e2 => by
        rw [nr_1]
        exact ih (k + 1) I2 S2 (by omega) h2 (by rw [e2]; exact hJ1.mono (by omega))
      have b66 : ∀ I2 S2, CT K R t I2 S2 → S2.σ = S1.σ → w_L_law_b66 b L xs Q X t (nI k) v kc ks n K R I2 := by
        intro I2 S2 h2 e2
        have hJ2 : Jn (99 * k + 99) S2.σ := by rw [e2]; exact hJ1
        have hA := h2.2.1.1.A4.2
        unfold w_L_law_b66 w_L_law_b101 w_L_low
        refine ⟨fun _ => b101 I2 S2 h2 e2, fun _ => ⟨hkc, hks, h2.1.k, k_n4A h2 ⟨fun _ => b101 I2 S2 h2 e2, fun z => ⟨hkc, hks, k_n4A h2 ?_⟩⟩⟩⟩
        have h1 : 1 ≤ ix (S2.σ 4) := by
          rcases Nat.eq_zero_or_pos (ix (S2.σ 4)) with c | c
          · rw [c] at z; exact absurd (show nI 0 ≤ 0 by decide) z
          · exact c
        obtain ⟨q, hq, eq⟩ := low_nI (v >>> ((5:Int32) &&& 31)) h1 (by omega)
        refine ⟨hkc, hks, fun z0 => ?_, ?_⟩
        · have := nI_inj (b := 0) (by omega) (by omega) z0
          omega
        · rw [eq]
          exact ⟨hkc, hks, k_isAnswered h2 hJ2 (by omega) hq (fun I' S' a e => ⟨fun _ => b101 I' S' a (e.trans e2), fun z => absurd z z10⟩)⟩
      exact ⟨fun _ => b66 _ _ hC1 rfl, fun _ => ⟨hkc, hks, k_isNext hC1 hJ1 (by omega) (fun I' S' a e => ⟨fun _ => b66 I' S' a e, fun z => absurd z z10⟩)⟩⟩
  exact key 48 0 I S (by omega) hC hJ
end LUP
theorem σ0_v : ∀ k, k < 161 → (-5 : Int32) ≤ σ0 k := by decide +kernel
theorem σ0_o {k : Nat} (h : 161 ≤ k) : σ0 k = 0 := by
  unfold σ0 sL sM
  rw [if_neg (by omega), if_neg (by omega), if_neg (by omega), if_neg (by omega), if_neg (by omega), if_neg (by omega), if_neg (by omega)]
theorem jn_0 : Jn 0 σ0 := by
  have e4 := σ0_4
  refine ⟨fun q hq => by rw [e4] at hq; exact absurd hq (Nat.not_lt_zero _), ⟨fun k _ => ?_, fun k hk hne => absurd (show σ0 (13 + k) = -5 by unfold σ0 sL; rw [if_pos (by omega)]) hne, fun m hm j hj => ?_, by decide +kernel, by decide +kernel, by decide +kernel, by decide +kernel, by decide +kernel⟩, by unfold Tk; decide +kernel, 0, Nat.le_refl _, by decide +kernel⟩
  · by_cases c : k < 161
    · exact σ0_v k c
    · rw [σ0_o (by omega)]; decide
  · have hz : ∀ m, m < 4 → loN σ0 m = 0 := by decide +kernel
    rw [hz m hm] at hj
    omega
/-- THE LAW, FROM ITS FIRST INSTRUCTION -/
theorem w_start {b L : Nat} {xs : Nat → Int32} {K : MK} {R : MR} {I : MI} {n : Nat} {Q : Prop} (hL : L < 2 ^ 31) (hQ : Q) : w_L_law b L xs K R I n Q := by
  unfold w_L_law
  refine ⟨by decide, by decide, ?_⟩
  rintro K1 rfl R1 rfl I1 rfl
  refine ⟨by decide, by decide, c_X6 (upK_s _ _ _) (clI_s _ _) (fun K2 R2 I2 b2 a2 p2 i2 => ?_)⟩
  exact ⟨gR R2 n, gI I2 n, gs_0 a2 p2, law_loop hL (by decide) (by decide) hQ (start_CT a2 p2 i2) jn_0⟩
