def doA (σ : Sr) (q c : Nat) : Sr := su σ (161 + 11 * q + 6) (σ c)
def doB (σ : Sr) (q c : Nat) : Sr := su σ c (if σ (161 + 11 * q + 3) = -5 then σ c else σ (161 + 11 * q + 3))
def doOn (σ : Sr) (q c : Nat) : Sr := su (doB (doA σ q c) q c) (161 + 11 * q + 4) 2
def doOne (σ : Sr) (t k : Nat) : Sr := if σ (161 + 11 * lsq σ t k + 4) = 1 ∧ σ (161 + 11 * lsq σ t k + 10) = σ 0 then doOn σ (lsq σ t k) (65 + 24 * t + ix (σ (161 + 11 * lsq σ t k + 2))) else σ
def doRow (σ : Sr) (t : Nat) : Nat → Sr
  | 0 => σ
  | k + 1 => doOne (doRow σ t k) t k
def doAllL (σ : Sr) : Nat → Sr
  | 0 => σ
  | t + 1 => doRow (doAllL σ t) t (inN (doAllL σ t) t)
def doAllS (σ : Sr) : Sr := doAllL σ 4
theorem doOn_n {σ : Sr} {q c j : Nat} (h1 : j ≠ 161 + 11 * q + 6) (h2 : j ≠ c) (h3 : j ≠ 161 + 11 * q + 4) : doOn σ q c j = σ j := by
  unfold doOn doB doA
  rw [su_n h3, su_n h2, su_n h1]
theorem doOne_n {σ : Sr} {t k j : Nat} (ha : ∃ a, a < 16 ∧ σ (161 + 11 * lsq σ t k + 2) = nI a) (h1 : j < 65 ∨ (65 ≤ j ∧ j < 161 ∧ 16 ≤ (j - 65) % 24) ∨ (161 ≤ j ∧ (j - 161) % 11 ≠ 4 ∧ (j - 161) % 11 ≠ 6)) (ht : t < 4) : doOne σ t k j = σ j := by
  unfold doOne
  split
  · obtain ⟨a, ha, e⟩ := ha
    rw [ix_eq e (by omega)]
    exact doOn_n (by omega) (by omega) (by omega)
  · rfl
theorem doOne_inv {σ : Sr} {t k : Nat} (hS : InvS σ) (ht : t < 4) (hk : k < inN σ t) : InvS (doOne σ t k) := by
  obtain ⟨hn, en, hj⟩ := hS.lists ht
  obtain ⟨q1, q2, q3, q4, -⟩ := hj k hk
  refine hS.fr (fun j hj => doOne_n q4 (by unfold isStr at hj; omega) ht) (fun q => ?_)
  unfold doOne
  split
  · rename_i hc
    obtain ⟨a, ha, e⟩ := q4
    rw [ix_eq e (by omega)]
    by_cases hq : q = lsq σ t k
    · subst hq
      refine Or.inr ⟨hc.1, ?_⟩
      unfold doOn
      rw [su_s]
    · exact Or.inl (doOn_n (by omega) (by omega) (by omega))
  · exact Or.inl rfl
theorem doRow_inv {σ : Sr} {t : Nat} (hS : InvS σ) (ht : t < 4) : ∀ k, k ≤ inN σ t → InvS (doRow σ t k) ∧ ∀ j, (j < 65 ∨ (65 ≤ j ∧ j < 161 ∧ 16 ≤ (j - 65) % 24) ∨ (161 ≤ j ∧ (j - 161) % 11 ≠ 4 ∧ (j - 161) % 11 ≠ 6)) → doRow σ t k j = σ j
  | 0, _ => ⟨hS, fun _ _ => rfl⟩
  | k + 1, hk => by
    obtain ⟨h1, h2⟩ := doRow_inv hS ht k (by omega)
    have hin : inN (doRow σ t k) t = inN σ t := by unfold inN; rw [h2 _ (by omega)]
    obtain ⟨hn, en, hj⟩ := h1.lists ht
    obtain ⟨q1, q2, q3, q4, -⟩ := hj k (by omega)
    exact ⟨doOne_inv h1 ht (by omega), fun j hj2 => by unfold doRow; rw [doOne_n q4 hj2 ht]; exact h2 j hj2⟩
theorem doAllL_inv {σ : Sr} (hS : InvS σ) : ∀ t, t ≤ 4 → InvS (doAllL σ t) ∧ ∀ j, (j < 65 ∨ (65 ≤ j ∧ j < 161 ∧ 16 ≤ (j - 65) % 24) ∨ (161 ≤ j ∧ (j - 161) % 11 ≠ 4 ∧ (j - 161) % 11 ≠ 6)) → doAllL σ t j = σ j
  | 0, _ => ⟨hS, fun _ _ => rfl⟩
  | t + 1, ht => by
    obtain ⟨h1, h2⟩ := doAllL_inv hS t (by omega)
    obtain ⟨g1, g2⟩ := doRow_inv h1 (t := t) (by omega) _ (Nat.le_refl _)
    exact ⟨g1, fun j hj => (g2 j hj).trans (h2 j hj)⟩
section REF3
variable {K : MK} {R : MR} {I : MI} {r : Nat} {σ : Sr}
theorem ref_doAll {Q : MI → Prop} (hM : IsModel K R r) (hS : InvS σ) (h : Q (stS I r (doAllS σ))) : w_X7_doAll K R r (stS I r σ) Q := by
  unfold w_X7_doAll w_X7_doAll_b2
  intro X hX
  have key : ∀ d t, t + d = 4 → X (nI t) (stS I r (doAllL σ t)) := by
    intro d
    induction d with
    | zero =>
      intro t ht
      refine hX _ _ ?_
      have ht4 : t = 4 := by omega
      subst ht4
      unfold w_X7_doAll_b2_body
      simp (disch := omega) only [← Nat.add_assoc, stS_s, up_s, true_and, and_true, true_implies, forall_eq, not_true, not_false_iff, false_implies, of_l0, of_l1, of_l2, of_l3, of_l4, of_l5, of_l6, of_l7, of_l8, of_l9, of_l10, ofM_l0, ofM_l1, ofM_l2, ofM_l3, ofM_l4, ofM_l5, ofM_l6, ofM_l7, ofM_l8, ofM_l9, ofM_l10, ofT_l16, ofT_l17, ofT_l18, ofT_l19, ofT_l20, of_n, ofM_n, ofT_n, nl_1, nl_8, nl_13, nl_16, nl_20, nl_2361, nr_1, ix_nI, vpT, ll_4, Nat.le_refl]
      exact h
    | succ d ih =>
      intro t ht
      have h4 : ¬ 4 ≤ t := by omega
      obtain ⟨hτ, -⟩ := doAllL_inv hS t (by omega)
      have ih1 := ih (t + 1) (by omega)
      unfold doAllL at ih1
      generalize doAllL σ t = τ at hτ ih1 ⊢
      refine hX _ _ ?_
      unfold w_X7_doAll_b2_body w_X7_doAll_b9
      simp (disch := omega) only [← Nat.add_assoc, stS_s, up_s, true_and, and_true, true_implies, forall_eq, not_true, not_false_iff, false_implies, of_l0, of_l1, of_l2, of_l3, of_l4, of_l5, of_l6, of_l7, of_l8, of_l9, of_l10, ofM_l0, ofM_l1, ofM_l2, ofM_l3, ofM_l4, ofM_l5, ofM_l6, ofM_l7, ofM_l8, ofM_l9, ofM_l10, ofT_l16, ofT_l17, ofT_l18, ofT_l19, ofT_l20, of_n, ofM_n, ofT_n, nl_1, nl_8, nl_13, nl_16, nl_20, nl_2361, nr_1, ix_nI, vpT, ll_4, h4]
      intro X9 hX9
      have inner : ∀ e k, k + e = inN τ t → X9 (nI t) (nI k) (stS I r (doRow τ t k)) := by
        intro e
        induction e with
        | zero =>
          intro k hk
          refine hX9 _ _ _ ?_
          obtain ⟨hρ, heq⟩ := doRow_inv hτ (t := t) (by omega) k (by omega)
          obtain ⟨hn, en, hj⟩ := hτ.lists (t := t) (by omega)
          have en2 : doRow τ t k (65 + 24 * t + 19) = nI (inN τ t) := by rw [heq _ (by omega)]; exact en
          have hk2 : k = inN τ t := by omega
          unfold w_X7_doAll_b9_body
          have hle : inN τ t ≤ k := by omega
          simp (disch := omega) only [← Nat.add_assoc, stS_s, up_s, true_and, and_true, true_implies, forall_eq, not_true, not_false_iff, false_implies, of_l0, of_l1, of_l2, of_l3, of_l4, of_l5, of_l6, of_l7, of_l8, of_l9, of_l10, ofM_l0, ofM_l1, ofM_l2, ofM_l3, ofM_l4, ofM_l5, ofM_l6, ofM_l7, ofM_l8, ofM_l9, ofM_l10, ofT_l16, ofT_l17, ofT_l18, ofT_l19, ofT_l20, of_n, ofM_n, ofT_n, nl_1, nl_8, nl_13, nl_16, nl_20, nl_2361, nr_1, ix_nI, vpT, en2, nI_leI', hle]
          rw [hk2]
          exact ⟨hM, ih1⟩
        | succ e ihe =>
          intro k hk
          refine hX9 _ _ _ ?_
          obtain ⟨hρ, heq⟩ := doRow_inv hτ (t := t) (by omega) k (by omega)
          have hin : inN (doRow τ t k) t = inN τ t := by unfold inN; rw [heq _ (by omega)]
          obtain ⟨hn, en, hj⟩ := hρ.lists (t := t) (by omega)
          obtain ⟨q1, q2, q3, ⟨a, ha, q4⟩, -⟩ := hj k (by omega)
          have ihe1 := ihe (k + 1) (by omega)
          unfold doRow at ihe1
          unfold doOne at ihe1
          rw [ix_eq q4 (by omega)] at ihe1
          have hle : ¬ inN (doRow τ t k) t ≤ k := by omega
          unfold w_X7_doAll_b9_body w_X7_doAll_b147 w_X7_doAll_b159
          generalize doRow τ t k = ρ at *
          simp (disch := omega) only [← Nat.add_assoc, stS_s, up_s, true_and, and_true, true_implies, forall_eq, not_true, not_false_iff, false_implies, of_l0, of_l1, of_l2, of_l3, of_l4, of_l5, of_l6, of_l7, of_l8, of_l9, of_l10, ofM_l0, ofM_l1, ofM_l2, ofM_l3, ofM_l4, ofM_l5, ofM_l6, ofM_l7, ofM_l8, ofM_l9, ofM_l10, ofT_l16, ofT_l17, ofT_l18, ofT_l19, ofT_l20, of_n, ofM_n, ofT_n, nl_1, nl_8, nl_13, nl_16, nl_20, nl_2361, nr_1, ix_nI, vpT, en, nI_leI', hle, q2, q4]
          refine ⟨hM, fun c => ?_, fun c => ⟨fun c2 => ?_, fun c2 => ⟨fun c3 => ?_, fun c3 => ?_⟩⟩⟩
          · rw [if_neg (fun z => c z.1)] at ihe1
            exact ihe1
          · rw [if_neg (fun z => c2 z.2)] at ihe1
            exact ihe1
          · rw [if_pos ⟨c, c2⟩] at ihe1
            refine ⟨hM, ?_⟩
            unfold doOn doB doA at ihe1
            rw [if_neg c3] at ihe1
            exact ihe1
          · rw [if_pos ⟨c, c2⟩] at ihe1
            refine ⟨hM, ?_⟩
            unfold doOn doB doA at ihe1
            rw [if_pos c3] at ihe1
            exact ihe1
      exact inner (inN τ t) 0 (by omega)
  exact key 4 0 rfl
end REF3
