def ansH (ρ : Sr) (t p : Nat) : Sr := su (su ρ 6 (nI (t4 t 1))) 12 (ρ 12 + (if 0 < p then 1 else 0))
section CG
variable {σ ρ : Sr}
theorem answersS_n {t p k s : Nat} (hS : InvS σ) (ht : t < 4) (hp : p < inN σ t) (ek : σ (161 + 11 * lsq σ t p + 5) = nI k) (hk : k < 8) (h1 : s ≠ 5 ∧ s ≠ 6 ∧ s ≠ 8 ∧ s ≠ 12) (h2 : s < 65 + 24 * t + 19 ∨ 65 + 24 * t + 24 ≤ s) (h3 : s ≠ 13 + k ∧ s ≠ 161 + 11 * lsq σ t p + 5 ∧ s ≠ 161 + 11 * lsq σ t p + 4 ∧ s ≠ 161 + 11 * lsq σ t p + 8) : answersS σ t p s = σ s := by
  have hn := (hS.lists ht).1
  have hin : inN (ansHead σ t p) t = inN σ t := by unfold inN; rw [ansHead_n (by omega)]
  have e5 : remL (ansHead σ t p) t p (161 + 11 * lsq σ t p + 5) = nI k := by
    rw [remL_n (by omega) (by omega) (by omega), ansHead_n (by omega)]
    exact ek
  unfold answersS
  rw [ansQ_n (by rw [ix_eq e5 (by omega)]; exact h3.1) h3.2.1 h3.2.2.1 h3.2.2.2, remL_n (by omega) (by omega) h2, ansHead_n h1]
theorem answersS_q {t p k : Nat} (hS : InvS σ) (ht : t < 4) (hp : p < inN σ t) (ek : σ (161 + 11 * lsq σ t p + 5) = nI k) (hk : k < 8) : answersS σ t p (13 + k) = -5 ∧ answersS σ t p (161 + 11 * lsq σ t p + 4) = 3 ∧ answersS σ t p (161 + 11 * lsq σ t p + 8) = σ 0 - σ (161 + 11 * lsq σ t p + 7) := by
  have hn := (hS.lists ht).1
  have hin : inN (ansHead σ t p) t = inN σ t := by unfold inN; rw [ansHead_n (by omega)]
  have e5 : remL (ansHead σ t p) t p (161 + 11 * lsq σ t p + 5) = nI k := by
    rw [remL_n (by omega) (by omega) (by omega), ansHead_n (by omega)]
    exact ek
  unfold answersS ansQ ansQ0
  rw [ix_eq e5 (by omega)]
  refine ⟨?_, ?_, ?_⟩
  · rw [su_n (by omega), su_n (by omega), su_n (by omega), su_s]
  · rw [su_n (by omega), su_s]
  · rw [su_s, su_n (by omega), su_n (by omega), su_n (by omega), su_n (by omega), su_n (by omega), su_n (by omega), remL_n (by omega) (by omega) (by omega), ansHead_n (by omega), remL_n (by omega) (by omega) (by omega), ansHead_n (by omega)]
theorem clsA_n {q k m s : Nat} (h : s ≠ 13 + k ∧ s ≠ 161 + 11 * q + 5 ∧ s ≠ 161 + 11 * q + 4 ∧ s ≠ 161 + 11 * q + 8 ∧ s ≠ 2361 + m ∧ s ≠ 2365 + m ∧ s ≠ 2369 + m ∧ s ≠ 8 ∧ s ≠ 5) : clsA ρ q k m s = ρ s := by
  unfold clsA
  rw [su_n (by omega), su_n (by omega), su_n (by omega), su_n (by omega), su_n (by omega), su_n (by omega), su_n (by omega), su_n (by omega), su_n (by omega)]
theorem ansH_n {t p s : Nat} (h : s ≠ 6 ∧ s ≠ 12) : ansH ρ t p s = ρ s := by
  unfold ansH
  rw [su_n h.2, su_n h.1]
theorem ans_rel {t p k m : Nat} (hR : RelB ρ σ) (ht : t < 4) (hp : p < inN σ t) (hk : k < 8) (ek : σ (161 + 11 * lsq σ t p + 5) = nI k) (el : σ (13 + k) = nI (lsq σ t p)) (hm : m < 4) (em : σ (161 + 11 * lsq σ t p + 0) = nI m) : RelB (clsA (remL (ansH ρ t p) t p) (lsq σ t p) k m) (answersS σ t p) := by
  obtain ⟨hS, hM, ⟨g1, g2⟩, hL, hC⟩ := hR
  obtain ⟨hA4, hA⟩ := hS.A4
  obtain ⟨hn, en, hl⟩ := hS.lists ht
  obtain ⟨q1, q2, q3, -⟩ := hl p hp
  have qA := (hS.lists2 ht hp).1
  have hS' := answersS_inv hS ht hp
  have hn' : ∀ s, (s ≠ 5 ∧ s ≠ 6 ∧ s ≠ 8 ∧ s ≠ 12) → (s < 65 + 24 * t + 19 ∨ 65 + 24 * t + 24 ≤ s) → (s ≠ 13 + k ∧ s ≠ 161 + 11 * lsq σ t p + 5 ∧ s ≠ 161 + 11 * lsq σ t p + 4 ∧ s ≠ 161 + 11 * lsq σ t p + 8) → answersS σ t p s = σ s := fun s a b c => answersS_n hS ht hp ek hk a b c
  obtain ⟨v1, v2, v3⟩ := answersS_q hS ht hp ek hk
  have hA' : answersS σ t p 4 = σ 4 := hn' _ (by omega) (by omega) (by omega)
  have hinr : inN ρ t = inN σ t := by unfold inN; rw [g1 _ (by omega) (by omega) (by omega)]
  have hinr2 : inN (ansH ρ t p) t = inN σ t := by rw [← hinr]; unfold inN; rw [ansH_n (by omega)]
  have hr : ∀ s, s ≠ 6 ∧ s ≠ 12 → (s < 65 + 24 * t + 19 ∨ 65 + 24 * t + 24 ≤ s) → remL (ansH ρ t p) t p s = ρ s := fun s a b => by rw [remL_n (by omega) (by omega) b, ansH_n a]
  refine ⟨hS', by rw [hn' _ (by omega) (by omega) (by omega)]; exact hM, ⟨?_, ?_⟩, ?_, ?_⟩
  · rw [hA']
    have a1 : AgE (ansH ρ t p) (ansHead σ t p) (ix (σ 4)) 8 := by
      unfold ansH ansHead
      refine AgE.both ?_ ?_
      · exact (((g1.e 8).both rfl).sr (by omega)).sr (by omega)
      · rw [su_n (by omega), su_n (by omega), su_n (by omega), g1 12 (by omega) (by omega) (by omega)]
    have a2 := a1.remLB (t := t) (p := p) (by unfold inN; rw [ansHead_n (by omega)]; exact hn) (by unfold inN; rw [ansHead_n (by omega)]; exact hp) ht (by omega)
    have e5 : remL (ansHead σ t p) t p (161 + 11 * lsq σ t p + 5) = nI k := by
      have hin : inN (ansHead σ t p) t = inN σ t := by unfold inN; rw [ansHead_n (by omega)]
      rw [remL_n (by omega) (by omega) (by omega), ansHead_n (by omega)]
      exact ek
    have hin : inN (ansHead σ t p) t = inN σ t := by unfold inN; rw [ansHead_n (by omega)]
    refine AgE.a (e := 8) ?_ ?_
    · unfold answersS ansQ ansQ0 clsA
      rw [ix_eq e5 (by omega)]
      refine (((((AgE.both (((a2.both rfl).both rfl).both rfl) ?_).sl (by omega)).sl (by omega)).sl (by omega)).sl (by omega)).sl (by omega)
      rw [hr _ (by omega) (by omega), hr _ (by omega) (by omega), su_n (by omega), su_n (by omega), su_n (by omega), su_n (by omega), su_n (by omega), su_n (by omega), remL_n (by omega) (by omega) (by omega), ansHead_n (by omega), remL_n (by omega) (by omega) (by omega), ansHead_n (by omega), g1 0 (by omega) (by omega) (by omega), g1.d qA (w := 7) (by omega)]
    · unfold clsA answersS
      rw [su_n (by omega), su_s, hr _ (by omega) (by omega), ansQ_n (by rw [ix_eq e5 (by omega)]; omega) (by omega) (by omega) (by omega), remL_n (by omega) (by omega) (by omega)]
      unfold ansHead
      rw [su_n (by omega), su_s, su_n (by omega), su_n (by omega), g1 8 (by omega) (by omega) (by omega)]
  · rw [hA']
    refine g2.fr (fun q hq ho => ?_)
    have hne : q ≠ lsq σ t p := fun e => by
      subst e
      unfold OnT at ho
      rw [v2] at ho
      rcases ho with ho | ho <;> exact absurd ho (by decide)
    refine ⟨?_, ?_, hn' _ (by omega) (by omega) (by omega)⟩
    · unfold OnT at ho ⊢
      rw [hn' _ (by omega) (by omega) (by omega)] at ho
      exact ho
    · rw [clsA_n (by omega), hr _ (by omega) (by omega)]
  · have e5 : answersS σ t p 5 = 1 := by
      have hin : inN (ansHead σ t p) t = inN σ t := by unfold inN; rw [ansHead_n (by omega)]
      have e5 : remL (ansHead σ t p) t p (161 + 11 * lsq σ t p + 5) = nI k := by
        rw [remL_n (by omega) (by omega) (by omega), ansHead_n (by omega)]
        exact ek
      unfold answersS
      rw [ansQ_n (by rw [ix_eq e5 (by omega)]; omega) (by omega) (by omega) (by omega), remL_n (by omega) (by omega) (by omega)]
      unfold ansHead
      rw [su_n (by omega), su_n (by omega), su_s]
    have c5 : clsA (remL (ansH ρ t p) t p) (lsq σ t p) k m 5 = 1 := by unfold clsA; rw [su_s]
    rw [e5, c5]
    decide
  · intro m' hm'
    obtain ⟨c1, c2, c3⟩ := hC m' hm'
    have hTg : Tg_ (answersS σ t p) = Tg_ σ := by unfold Tg_; rw [hn' 1 (by omega) (by omega) (by omega)]
    obtain ⟨hT, -, hT8⟩ := hS.T1
    obtain ⟨T, A, z1, z2, z3, z4, z5, z6, z7, z8, -⟩ := hS
    have hTT : Tg_ σ = T := ix_eq z1 (by omega)
    have hAA : ix (σ 4) = A := ix_eq z4 (by omega)
    have hkT : k < Tg_ σ := by
      rcases z8 k hk with e | ⟨e, -⟩
      · rw [el] at e; exact absurd e (nI_ne5 (by omega))
      · omega
    have hold : ∀ j, j < Tg_ σ → j ≠ k → heldBy (answersS σ t p) m' j = heldBy σ m' j := fun j hj hjk => by
      unfold heldBy
      rw [hn' (13 + j) (by omega) (by omega) (by omega)]
      rcases z8 j (by omega) with e | ⟨-, q, hq, e⟩
      · rw [e]; rfl
      · rw [e, ix_nI (by omega), hn' (161 + 11 * q + 0) (by omega) (by omega) (by omega)]
    have hk1 : heldBy (answersS σ t p) m' k = false := by unfold heldBy; rw [v1]; rfl
    have hb3 : ∀ q, q ≠ lsq σ t p → ansB3 (answersS σ t p) m' q = ansB3 σ m' q := fun q hq => ansB3_fr (hn' _ (by omega) (by omega) (by omega)) (by rw [hn' _ (by omega) (by omega) (by omega)])
    have hw8 : ∀ q, q ≠ lsq σ t p → answersS σ t p (161 + 11 * q + 8) = σ (161 + 11 * q + 8) := fun q hq => hn' _ (by omega) (by omega) (by omega)
    have e0 : answersS σ t p (161 + 11 * lsq σ t p + 0) = nI m := by rw [hn' _ (by omega) (by omega) (by omega)]; exact em
    have hσ3 : σ (161 + 11 * lsq σ t p + 4) ≠ 3 := fun z => by
      unfold OnT at q3
      rw [z] at q3
      rcases q3 with q3 | q3 <;> exact absurd q3 (by decide)
    have hb0 : ansB3 σ m' (lsq σ t p) = false := by simp [ansB3, hσ3]
    by_cases e : m' = m
    · subst e
      have hk2 : heldBy σ m' k = true := by
        unfold heldBy
        rw [el, ix_nI (by omega), em]
        simp [nI_ne5 (k := lsq σ t p) (by omega)]
      have hh := cnt_one hk1 hk2 (Tg_ σ) hold
      rw [if_pos hkT] at hh
      have hb1 : ansB3 (answersS σ t p) m' (lsq σ t p) = true := by unfold ansB3; rw [e0, v2]; simp
      have ha := cnt_one hb0 hb1 (ix (σ 4)) (fun q _ hq => (hb3 q hq).symm)
      rw [if_pos qA] at ha
      have hlo := lonL_one (σ := σ) (τ := answersS σ t p) hb0 hb1 (ix (σ 4)) (fun q _ hq => ⟨hb3 q hq, fun _ => hw8 q hq⟩)
      rw [if_pos qA] at hlo
      unfold holdsN ansN
      rw [hTg, hA', ha, hlo, v3]
      have hold2 : holdsN σ m' = cnt (heldBy (answersS σ t p) m') (Tg_ σ) + 1 := hh
      refine ⟨?_, ?_, ?_⟩
      · unfold clsA
        rw [su_n (by omega), su_n (by omega), su_n (by omega), su_n (by omega), su_s, hr _ (by omega) (by omega), c1, hold2, nI_s1]
      · unfold clsA
        rw [su_n (by omega), su_n (by omega), su_n (by omega), su_s, hr _ (by omega) (by omega), c2, nr_1]
        rfl
      · unfold clsA
        rw [su_n (by omega), su_n (by omega), su_s, hr _ (by omega) (by omega), c3, hr _ (by omega) (by omega), hr _ (by omega) (by omega), g1 0 (by omega) (by omega) (by omega), g1.d qA (w := 7) (by omega)]
    · have hk2 : heldBy σ m' k = false := by
        unfold heldBy
        rw [el, ix_nI (by omega), em]
        have : nI m ≠ nI m' := fun z => e (nI_inj (by omega) (by omega) z).symm
        simp [this]
      rw [clsA_n (by omega), clsA_n (by omega), clsA_n (by omega), hr _ (by omega) (by omega), hr _ (by omega) (by omega), hr _ (by omega) (by omega), c1, c2, c3]
      have hb1 : ansB3 (answersS σ t p) m' (lsq σ t p) = false := by
        have : nI m ≠ nI m' := fun z => e (nI_inj (by omega) (by omega) z).symm
        unfold ansB3; rw [e0]; simp [this]
      have hb : ∀ q, ansB3 (answersS σ t p) m' q = ansB3 σ m' q := fun q => by
        by_cases eq : q = lsq σ t p
        · subst eq; rw [hb0, hb1]
        · exact hb3 q eq
      unfold holdsN ansN
      rw [hTg, hA']
      refine ⟨?_, ?_, ?_⟩
      · rw [cnt_congr _ (fun j hj => ?_)]
        by_cases ej : j = k
        · subst ej; rw [hk1, hk2]
        · exact (hold j hj ej).symm
      · rw [cnt_congr _ (fun q _ => hb q)]
      · refine (lonL_congr _ (fun q _ => ⟨hb q, fun z => ?_⟩)).symm
        by_cases eq : q = lsq σ t p
        · subst eq; rw [hb0] at z; cases z
        · exact hw8 q eq
end CG
