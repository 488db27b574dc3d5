/-- an answer goes -/
theorem answersS_inv {σ : Sr} (hS : InvS σ) {t p : Nat} (ht : t < 4) (hp : p < inN σ t) : InvS (answersS σ t p) := by
  have h1 := ansHead_inv hS t p
  have hin : inN (ansHead σ t p) t = inN σ t := by unfold inN; rw [ansHead_n (by omega)]
  have hq : lsq (ansHead σ t p) t p = lsq σ t p := by unfold lsq; rw [ansHead_n (by omega)]
  obtain ⟨hn, en, hl⟩ := h1.lists ht
  obtain ⟨q1, q2, q3, q4, k, k1, k2, k3⟩ := hl p (by omega)
  obtain ⟨g1, g2⟩ := remL_inv h1 ht (p := p) (by omega)
  have hnn : ∀ s, s < 65 + 24 * t + 19 ∨ 65 + 24 * t + 24 ≤ s → remL (ansHead σ t p) t p s = ansHead σ t p s := fun s h => remL_n (by omega) hn h
  rw [hq] at *
  unfold answersS
  refine ansQ_inv g1 ?_ ⟨k, k1, ?_, ?_⟩ q1 g2
  · unfold OnT at q3 ⊢
    rw [hnn _ (by omega)]; exact q3
  · rw [hnn _ (by omega)]; exact k2
  · rw [hnn _ (by omega)]; exact k3
section REF5
variable {K : MK} {R : MR} {I : MI} {r : Nat} {σ : Sr}
theorem stS_r {I : MI} {r : Nat} {σ : Sr} {k : Nat} : stS I r σ r k = I r k := stS_o (by omega)
theorem up_r {I : MI} {r : Nat} {σ : Sr} {k : Nat} {x : Int32} : upI (stS I r σ) r k x = stS (upI I r k x) r σ := up_o (by omega)
theorem ref_answers {Q : Int32 → MI → Prop} {t p : Nat} (hM : IsModel K R r) (hS : InvS σ) (ht : t < 4) (hp : ansO σ t = some p) (h : Q 1 (stS (upI I r 12 (σ (65 + 24 * t + 20 + p))) r (answersS σ t p))) : w_X7_answers K R r (nI t) (stS I r σ) Q := by
  have hpn := ansO_lt hp
  obtain ⟨hn, en, hl⟩ := hS.lists ht
  obtain ⟨q1, q2, q3, q4, k, k1, k2, k3⟩ := hl p hpn
  have tail : w_X7_answers_b77 K R r (nI t) Q (nI (lsq σ t p)) (nI p) (stS (upI I r 12 (σ (65 + 24 * t + 20 + p))) r (ansHead σ t p)) := by
    have h1 := ansHead_inv hS t p
    have hin : inN (ansHead σ t p) t = inN σ t := by unfold inN; rw [ansHead_n (by omega)]
    generalize upI I r 12 (σ (65 + 24 * t + 20 + p)) = J at h ⊢
    unfold answersS at h
    have hk2 : ansHead σ t p (161 + 11 * lsq σ t p + 5) = nI k := by rw [ansHead_n (by omega)]; exact k2
    generalize ansHead σ t p = τ at h h1 hin hk2 ⊢
    generalize lsq σ t p = q at *
    unfold w_X7_answers_b77
    intro X hX
    have key : ∀ d i, i + d = inN τ t - 1 - p → X (nI q) (nI (p + i)) (stS J r (shf τ (65 + 24 * t + 20) p i)) := by
      intro d
      induction d with
      | zero =>
        intro i hi
        refine hX _ _ _ ?_
        have hle : inN τ t ≤ p + i + 1 := by omega
        have hz : shf τ (65 + 24 * t + 20) p i (65 + 24 * t + 19) = nI (inN τ t) := by
          rw [shf_out _ (fun j h1 h2 => by omega)]
          exact (h1.lists ht).2.1
        have hi2 : i = inN τ t - 1 - p := by omega
        have hrem : remL τ t p = su (shf τ (65 + 24 * t + 20) p i) (65 + 24 * t + 19) (nI (inN τ t) - 1) := by unfold remL; rw [← hi2, hz]
        have hk3 : su (shf τ (65 + 24 * t + 20) p i) (65 + 24 * t + 19) (nI (inN τ t) - 1) (161 + 11 * q + 5) = nI k := by
          rw [su_n (by omega), shf_out _ (fun j h1 h2 => by omega)]
          exact hk2
        unfold w_X7_answers_b77_body
        simp (disch := omega) only [← Nat.add_assoc, stS_s, up_s, true_and, and_true, true_implies, forall_eq, not_true, not_false_iff, false_implies, of_l0, of_l1, of_l2, of_l3, of_l4, of_l5, of_l6, of_l7, of_l8, of_l9, of_l10, ofM_l0, ofM_l1, ofM_l2, ofM_l3, ofM_l4, ofM_l5, ofM_l6, ofM_l7, ofM_l8, ofM_l9, ofM_l10, ofT_l16, ofT_l17, ofT_l18, ofT_l19, ofT_l20, of_n, ofM_n, ofT_n, nl_1, nl_8, nl_13, nl_16, nl_20, nl_2361, nr_1, ix_nI, vpT, hz, nI_leI', hle]
        unfold ansQ ansQ0 at h
        rw [hrem] at h
        generalize su (shf τ (65 + 24 * t + 20) p i) (65 + 24 * t + 19) (nI (inN τ t) - 1) = ρ at h hk3 ⊢
        rw [hk3, ix_nI (by omega)] at h
        simp (disch := omega) only [← Nat.add_assoc, stS_s, up_s, true_and, and_true, true_implies, forall_eq, not_true, not_false_iff, false_implies, of_l0, of_l1, of_l2, of_l3, of_l4, of_l5, of_l6, of_l7, of_l8, of_l9, of_l10, ofM_l0, ofM_l1, ofM_l2, ofM_l3, ofM_l4, ofM_l5, ofM_l6, ofM_l7, ofM_l8, ofM_l9, ofM_l10, ofT_l16, ofT_l17, ofT_l18, ofT_l19, ofT_l20, of_n, ofM_n, ofT_n, nl_1, nl_8, nl_13, nl_16, nl_20, nl_2361, nr_1, ix_nI, vpT, hk3]
        exact ⟨hM, h⟩
      | succ d ih =>
        intro i hi
        refine hX _ _ _ ?_
        have hle : ¬ inN τ t ≤ p + i + 1 := by omega
        have hz : shf τ (65 + 24 * t + 20) p i (65 + 24 * t + 19) = nI (inN τ t) := by
          rw [shf_out _ (fun j h1 h2 => by omega)]
          exact (h1.lists ht).2.1
        have ih1 := ih (i + 1) (by omega)
        unfold shf at ih1
        unfold w_X7_answers_b77_body
        simp (disch := omega) only [← Nat.add_assoc, stS_s, up_s, true_and, and_true, true_implies, forall_eq, not_true, not_false_iff, false_implies, of_l0, of_l1, of_l2, of_l3, of_l4, of_l5, of_l6, of_l7, of_l8, of_l9, of_l10, ofM_l0, ofM_l1, ofM_l2, ofM_l3, ofM_l4, ofM_l5, ofM_l6, ofM_l7, ofM_l8, ofM_l9, ofM_l10, ofT_l16, ofT_l17, ofT_l18, ofT_l19, ofT_l20, of_n, ofM_n, ofT_n, nl_1, nl_8, nl_13, nl_16, nl_20, nl_2361, nr_1, ix_nI, vpT, hz, nI_leI', hle] at ih1 ⊢
        exact ⟨hM, ih1⟩
    exact key (inN τ t - 1 - p) 0 (by omega)
  unfold w_X7_answers
  refine ⟨hM, ref_answering hM hS ht ?_⟩
  rw [hp]
  unfold w_X7_answers_b72
  simp (disch := omega) only [← Nat.add_assoc, stS_s, up_s, true_and, and_true, true_implies, forall_eq, not_true, not_false_iff, false_implies, of_l0, of_l1, of_l2, of_l3, of_l4, of_l5, of_l6, of_l7, of_l8, of_l9, of_l10, ofM_l0, ofM_l1, ofM_l2, ofM_l3, ofM_l4, ofM_l5, ofM_l6, ofM_l7, ofM_l8, ofM_l9, ofM_l10, ofT_l16, ofT_l17, ofT_l18, ofT_l19, ofT_l20, of_n, ofM_n, ofT_n, nl_1, nl_8, nl_13, nl_16, nl_20, nl_2361, nr_1, ix_nI, vpT, oI, up_r, lr_0, q2]
  rw [nI_t4 (a := t) (k := 1) (by omega), show ix (12 : Int32) = 12 by decide]
  unfold ansHead at tail
  rw [q2] at tail
  refine ⟨fun c => ⟨hM, ?_⟩, fun c => ⟨hM, ?_⟩⟩
  · rw [if_neg (by omega)] at tail
    exact ⟨by unfold vp_in; decide, tail⟩
  · rw [if_pos (by omega)] at tail
    exact ⟨by unfold vp_in; decide, tail⟩
end REF5
