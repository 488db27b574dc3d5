/-! THE REFERENCE'S METHODS: what each makes of the row of numbers -/
theorem cnt_le (p : Nat → Bool) : ∀ n, cnt p n ≤ n
  | 0 => Nat.le_refl _
  | n + 1 => by
    have := cnt_le p n
    unfold cnt
    split <;> omega
theorem cnt_t {p : Nat → Bool} {n : Nat} (h : p n = true) : cnt p (n + 1) = cnt p n + 1 := by simp [cnt, h]
theorem cnt_f {p : Nat → Bool} {n : Nat} (h : p n = false) : cnt p (n + 1) = cnt p n := by simp [cnt, h]
def ansB (σ : Sr) (t : Nat) (f : Option Nat) (k : Nat) : Bool := σ (161 + 11 * lsq σ t k + 4) == 2 && (match f with
  | none => true
  | some g => decide (σ (161 + 11 * lsq σ t k + 10) < σ (161 + 11 * lsq σ t g + 10)))
def ansL (σ : Sr) (t : Nat) : Nat → Option Nat
  | 0 => none
  | k + 1 => if ansB σ t (ansL σ t k) k = true then some k else ansL σ t k
theorem ansL_lt {σ : Sr} {t : Nat} : ∀ k g, ansL σ t k = some g → g < k
  | 0, g, h => by cases h
  | k + 1, g, h => by
    unfold ansL at h
    split at h
    · cases h; omega
    · have := ansL_lt k g h; omega
def manyA (σ : Sr) (t : Nat) : Nat := if σ (65 + 24 * t + 18) = 0 ∧ 1 < inN σ t then 1 else inN σ t
def ansO (σ : Sr) (t : Nat) : Option Nat := ansL σ t (manyA σ t)
theorem manyA_le (σ : Sr) (t : Nat) : manyA σ t ≤ inN σ t := by
  unfold manyA
  split
  · rename_i h; omega
  · exact Nat.le_refl _
theorem ansO_lt {σ : Sr} {t g : Nat} (h : ansO σ t = some g) : g < inN σ t := Nat.lt_of_lt_of_le (ansL_lt _ _ h) (manyA_le σ t)
section REF2
variable {K : MK} {R : MR} {I : MI} {r : Nat} {σ : Sr}
theorem ref_holds {Q : Int32 → MI → Prop} {m : Nat} (hM : IsModel K R r) (hS : InvS σ) (hm : m < 4) (h : Q (nI (holdsN σ m)) (stS I r σ)) : w_X7_holds K R r (nI m) (stS I r σ) Q := by
  obtain ⟨T, A, a1, a2, a3, a4, a5, a6, a7, a8, -⟩ := hS
  have hTg : Tg_ σ = T := ix_eq a1 (by omega)
  unfold w_X7_holds w_X7_holds_b4
  intro X hX
  have key : ∀ d k, k + d = T → X (nI (cnt (heldBy σ m) k)) (nI k) (stS I r σ) := by
    intro d
    induction d with
    | zero =>
      intro k hk
      refine hX _ _ _ ?_
      unfold w_X7_holds_b4_body
      have hk2 : k = T := by omega
      subst hk2
      simp (disch := omega) only [← Nat.add_assoc, stS_s, up_s, true_and, and_true, true_implies, forall_eq, not_true, not_false_iff, false_implies, of_l0, of_l1, of_l2, of_l3, of_l4, of_l5, of_l6, of_l7, of_l8, of_l9, of_l10, ofM_l0, ofM_l1, ofM_l2, ofM_l3, ofM_l4, ofM_l5, ofM_l6, ofM_l7, ofM_l8, ofM_l9, ofM_l10, ofT_l16, ofT_l17, ofT_l18, ofT_l19, ofT_l20, of_n, ofM_n, ofT_n, nl_1, nl_8, nl_13, nl_16, nl_20, nl_2361, nr_1, ix_nI, vpT, a1, nI_leI', Nat.le_refl]
      refine ⟨hM, ?_⟩
      unfold holdsN at h
      rw [hTg] at h
      exact h
    | succ d ih =>
      intro k hk
      refine hX _ _ _ ?_
      have hkT : ¬ T ≤ k := by omega
      have hc := cnt_le (heldBy σ m) k
      unfold w_X7_holds_b4_body w_X7_holds_b55 w_X7_holds_b56
      simp (disch := omega) only [← Nat.add_assoc, stS_s, up_s, true_and, and_true, true_implies, forall_eq, not_true, not_false_iff, false_implies, of_l0, of_l1, of_l2, of_l3, of_l4, of_l5, of_l6, of_l7, of_l8, of_l9, of_l10, ofM_l0, ofM_l1, ofM_l2, ofM_l3, ofM_l4, ofM_l5, ofM_l6, ofM_l7, ofM_l8, ofM_l9, ofM_l10, ofT_l16, ofT_l17, ofT_l18, ofT_l19, ofT_l20, of_n, ofM_n, ofT_n, nl_1, nl_8, nl_13, nl_16, nl_20, nl_2361, nr_1, ix_nI, vpT, a1, nI_leI', hkT]
      refine ⟨hM, fun c => ?_, fun c => ?_⟩
      · have hp : heldBy σ m k = false := by simp [heldBy, c]
        have := ih (k + 1) (by omega)
        rw [cnt_f hp] at this
        rw [show nI (cnt (heldBy σ m) k) + 0 = nI (cnt (heldBy σ m) k) from nI_add _ 0]
        exact this
      · rcases a8 k (by omega) with e | ⟨-, q, hq, e⟩
        · exact absurd e c
        · have hq' : ix (σ (13 + k)) = q := ix_eq e (by omega)
          simp (disch := omega) only [← Nat.add_assoc, stS_s, up_s, true_and, and_true, true_implies, forall_eq, not_true, not_false_iff, false_implies, of_l0, of_l1, of_l2, of_l3, of_l4, of_l5, of_l6, of_l7, of_l8, of_l9, of_l10, ofM_l0, ofM_l1, ofM_l2, ofM_l3, ofM_l4, ofM_l5, ofM_l6, ofM_l7, ofM_l8, ofM_l9, ofM_l10, ofT_l16, ofT_l17, ofT_l18, ofT_l19, ofT_l20, of_n, ofM_n, ofT_n, nl_1, nl_8, nl_13, nl_16, nl_20, nl_2361, nr_1, ix_nI, vpT, e]
          refine ⟨fun c2 => ?_, fun c2 => ?_⟩
          · have hp : heldBy σ m k = false := by simpa [heldBy, hq', c] using c2
            have := ih (k + 1) (by omega)
            rw [cnt_f hp] at this
            rw [show nI (cnt (heldBy σ m) k) + 0 = nI (cnt (heldBy σ m) k) from nI_add _ 0]
            exact this
          · have hp : heldBy σ m k = true := by simpa [heldBy, c, hq'] using c2
            have := ih (k + 1) (by omega)
            rw [cnt_t hp] at this
            exact this
  exact key T 0 (by omega)
theorem ref_answering {Q : Int32 → MI → Prop} {t : Nat} (hM : IsModel K R r) (hS : InvS σ) (ht : t < 4) (h : Q (oI (ansO σ t)) (stS I r σ)) : w_X7_answering K R r (nI t) (stS I r σ) Q := by
  obtain ⟨hn, en, hj⟩ := hS.lists ht
  have loop : ∀ y2, w_X7_answering_b51 K R r (nI t) Q (oI none) (nI (manyA σ t)) 0 (stS I r σ) ∧ y2 = 0 → w_X7_answering_b51 K R r (nI t) Q (-5) (nI (manyA σ t)) 0 (stS I r σ) := fun _ q => q.1
  have hml := manyA_le σ t
  have main : w_X7_answering_b51 K R r (nI t) Q (-5) (nI (manyA σ t)) 0 (stS I r σ) := by
    unfold w_X7_answering_b51
    intro X hX
    have key : ∀ d k, k + d = manyA σ t → X (oI (ansL σ t k)) (nI (manyA σ t)) (nI k) (stS I r σ) := by
      intro d
      induction d with
      | zero =>
        intro k hk
        refine hX _ _ _ _ ?_
        have hk2 : k = manyA σ t := by omega
        unfold w_X7_answering_b51_body
        rw [hk2]
        simp (disch := omega) only [← Nat.add_assoc, stS_s, up_s, true_and, and_true, true_implies, forall_eq, not_true, not_false_iff, false_implies, of_l0, of_l1, of_l2, of_l3, of_l4, of_l5, of_l6, of_l7, of_l8, of_l9, of_l10, ofM_l0, ofM_l1, ofM_l2, ofM_l3, ofM_l4, ofM_l5, ofM_l6, ofM_l7, ofM_l8, ofM_l9, ofM_l10, ofT_l16, ofT_l17, ofT_l18, ofT_l19, ofT_l20, of_n, ofM_n, ofT_n, nl_1, nl_8, nl_13, nl_16, nl_20, nl_2361, nr_1, ix_nI, vpT, nI_leI', Nat.le_refl]
        exact h
      | succ d ih =>
        intro k hk
        refine hX _ _ _ _ ?_
        have hkn : ¬ manyA σ t ≤ k := by omega
        obtain ⟨q1, q2, q3, -⟩ := hj k (by omega)
        have ih1 := ih (k + 1) (by omega)
        unfold ansL at ih1
        unfold w_X7_answering_b51_body w_X7_answering_b117 w_X7_answering_b122 w_X7_answering_b149 w_X7_answering_b150
        cases hg : ansL σ t k with
        | none =>
          rw [hg] at ih1
          simp (disch := omega) only [← Nat.add_assoc, stS_s, up_s, true_and, and_true, true_implies, forall_eq, not_true, not_false_iff, false_implies, of_l0, of_l1, of_l2, of_l3, of_l4, of_l5, of_l6, of_l7, of_l8, of_l9, of_l10, ofM_l0, ofM_l1, ofM_l2, ofM_l3, ofM_l4, ofM_l5, ofM_l6, ofM_l7, ofM_l8, ofM_l9, ofM_l10, ofT_l16, ofT_l17, ofT_l18, ofT_l19, ofT_l20, of_n, ofM_n, ofT_n, nl_1, nl_8, nl_13, nl_16, nl_20, nl_2361, nr_1, ix_nI, vpT, nI_leI', hkn, q2, oI]
          refine ⟨hM, hM, fun c => ?_, fun c => ⟨fun e => absurd e (by decide), fun _ => ?_⟩⟩
          · rw [if_neg (by simp [ansB, c])] at ih1
            exact ih1
          · rw [if_pos (by simp [ansB, c])] at ih1
            exact ih1
        | some g =>
          rw [hg] at ih1
          have hgk := ansL_lt _ _ hg
          obtain ⟨p1, p2, p3, -⟩ := hj g (by omega)
          have hg5 := nI_ne5 (k := g) (by omega)
          simp (disch := omega) only [← Nat.add_assoc, stS_s, up_s, true_and, and_true, true_implies, forall_eq, not_true, not_false_iff, false_implies, of_l0, of_l1, of_l2, of_l3, of_l4, of_l5, of_l6, of_l7, of_l8, of_l9, of_l10, ofM_l0, ofM_l1, ofM_l2, ofM_l3, ofM_l4, ofM_l5, ofM_l6, ofM_l7, ofM_l8, ofM_l9, ofM_l10, ofT_l16, ofT_l17, ofT_l18, ofT_l19, ofT_l20, of_n, ofM_n, ofT_n, nl_1, nl_8, nl_13, nl_16, nl_20, nl_2361, nr_1, ix_nI, vpT, nI_leI', hkn, q2, oI, hg5, p2]
          refine ⟨hM, fun c => ⟨hM, fun d => ?_, fun d => ?_⟩, fun c => ⟨hM, fun d => ?_, fun d => ⟨fun e => absurd e (by decide), fun _ => ?_⟩⟩⟩
          · rw [if_neg (by simp [ansB, d])] at ih1
            exact ih1
          · rw [if_neg (by simp [ansB, d, Int32.not_lt.mpr c])] at ih1
            exact ih1
          · rw [if_neg (by simp [ansB, d])] at ih1
            exact ih1
          · rw [if_pos (by simp [ansB, d, Int32.not_le.mp c])] at ih1
            exact ih1
    exact key (manyA σ t) 0 (by omega)
  unfold w_X7_answering w_X7_answering_b36 w_X7_answering_b47
  simp (disch := omega) only [← Nat.add_assoc, stS_s, up_s, true_and, and_true, true_implies, forall_eq, not_true, not_false_iff, false_implies, of_l0, of_l1, of_l2, of_l3, of_l4, of_l5, of_l6, of_l7, of_l8, of_l9, of_l10, ofM_l0, ofM_l1, ofM_l2, ofM_l3, ofM_l4, ofM_l5, ofM_l6, ofM_l7, ofM_l8, ofM_l9, ofM_l10, ofT_l16, ofT_l17, ofT_l18, ofT_l19, ofT_l20, of_n, ofM_n, ofT_n, nl_1, nl_8, nl_13, nl_16, nl_20, nl_2361, nr_1, ix_nI, vpT, en]
  unfold manyA at main
  refine ⟨hM, fun c => ⟨hM, ?_⟩, fun c => ⟨fun d => ⟨hM, ?_⟩, fun d => ?_⟩⟩
  · rw [if_neg (fun q => c q.1)] at main
    exact main
  · rw [if_neg (fun q => absurd q.2 (by have := (lr_1 (k := inN σ t) (by omega)) ▸ d; omega))] at main
    exact main
  · rw [if_pos ⟨c, by have := (lr_1 (k := inN σ t) (by omega)) ▸ d; omega⟩] at main
    exact main
end REF2
