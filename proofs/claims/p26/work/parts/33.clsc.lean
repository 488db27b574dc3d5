section CC
variable {K : MK} {R : MR} {I J : MI} {b : Nat} {σ ρ : Sr}
theorem c_place {Q : Int32 → MI → Prop} {t : Nat} (hB : IsBus K R b) (hS : InvS σ) (hG : AgD ρ σ) (ht : t < 4) (h : Q (oI (ansO σ t)) (stB J b ρ)) : w_X0_placeOfAnswer K R b (some (b + 18 + 5 * t)) (stB J b ρ) Q := by
  obtain ⟨hn, en, hj⟩ := hS.lists ht
  obtain ⟨g1, g2⟩ := hG
  obtain ⟨hA4, hA⟩ := hS.A4
  have hml := manyA_le σ t
  have e1 : ρ (65 + 24 * t + 19) = nI (inN σ t) := by rw [g1 _ (by omega) (by omega) (by omega)]; exact en
  have e0 : ρ (65 + 24 * t + 18) = σ (65 + 24 * t + 18) := g1 _ (by omega) (by omega) (by omega)
  have e3 : ρ 4 = nI (ix (σ 4)) := by rw [g1 4 (by omega) (by omega) (by omega)]; exact hA4
  have main : ∀ z, w_X0_placeOfAnswer_b51 K R b (some (b + 18 + 5 * t)) Q (nI (manyA σ t)) (-5) z 0 (stB J b ρ) := by
    intro z
    unfold w_X0_placeOfAnswer_b51
    intro X hX
    have key : ∀ d k, k + d = manyA σ t → ∀ z, (∀ g, ansL σ t k = some g → z = σ (161 + 11 * lsq σ t g + 10)) → X (nI (manyA σ t)) (oI (ansL σ t k)) z (nI k) (stB J b ρ) := by
      intro d
      induction d with
      | zero =>
        intro k hk z hz
        refine hX _ _ _ _ _ ?_
        have hk2 : k = manyA σ t := by omega
        unfold w_X0_placeOfAnswer_b51_body
        rw [hk2]
        simp (disch := omega) only [← Nat.add_assoc, true_and, and_true, true_implies, forall_eq, forall_eq', not_true, not_false_iff, false_implies, Option.some.injEq, reduceCtorEq, exists_eq_left', implies_true, nl_1, nr_1, ix_nI, vpT, r_b_q, u_b_q, r_b_tk, u_b_tk, r_b_lt, u_b_lt, r_b_tm, u_b_tm, r_b_tt, u_b_tt, r_b_at, u_b_at, r_b_qt, u_b_qt, r_b_rt, u_b_rt, r_b_id, u_b_id, r_b_ov, u_b_ov, r_set0, u_set0, r_set1, u_set1, r_set2, u_set2, r_lent, u_lent, r_m1, u_m1, r_m2, u_m2, r_m3, u_m3, r_m4, u_m4, r_m5, u_m5, r_m6, u_m6, r_m7, u_m7, r_ml, u_ml, r_mr, u_mr, r_tc, u_tc, r_tn0, u_tn0, r_tn1, u_tn1, r_tn2, u_tn2, r_tl, u_tl, r_tr, u_tr, r_w0, u_w0, r_w1, u_w1, r_w2, u_w2, r_w3, u_w3, r_w4, u_w4, r_w5, u_w5, r_w6, u_w6, r_w7, u_w7, r_w8, u_w8, r_w9, u_w9, r_wa, u_wa, nI_leI', Nat.le_refl]
        exact h
      | succ d ih =>
        intro k hk z hz
        refine hX _ _ _ _ _ ?_
        have hkn : ¬ manyA σ t ≤ k := by omega
        obtain ⟨q1, q2, q3, -⟩ := hj k (by omega)
        have q5 := (hS.lists2 ht (j := k) (by omega)).1
        have ih1 := ih (k + 1) (by omega)
        unfold ansL at ih1
        have e2 : ρ (65 + 24 * t + 20 + k) = nI (lsq σ t k) := by rw [g1 _ (by omega) (by omega) (by omega)]; exact q2
        have e5 := g1.d q5 (w := 4) (by omega)
        have e6 := g2 _ q5 q3
        unfold w_X0_placeOfAnswer_b51_body w_X0_placeOfAnswer_b114 w_X0_placeOfAnswer_b103 w_X0_placeOfAnswer_b114
        simp (disch := omega) only [← Nat.add_assoc, true_and, and_true, true_implies, forall_eq, forall_eq', not_true, not_false_iff, false_implies, Option.some.injEq, reduceCtorEq, exists_eq_left', implies_true, nl_1, nr_1, ix_nI, vpT, r_b_q, u_b_q, r_b_tk, u_b_tk, r_b_lt, u_b_lt, r_b_tm, u_b_tm, r_b_tt, u_b_tt, r_b_at, u_b_at, r_b_qt, u_b_qt, r_b_rt, u_b_rt, r_b_id, u_b_id, r_b_ov, u_b_ov, r_set0, u_set0, r_set1, u_set1, r_set2, u_set2, r_lent, u_lent, r_m1, u_m1, r_m2, u_m2, r_m3, u_m3, r_m4, u_m4, r_m5, u_m5, r_m6, u_m6, r_m7, u_m7, r_ml, u_ml, r_mr, u_mr, r_tc, u_tc, r_tn0, u_tn0, r_tn1, u_tn1, r_tn2, u_tn2, r_tl, u_tl, r_tr, u_tr, r_w0, u_w0, r_w1, u_w1, r_w2, u_w2, r_w3, u_w3, r_w4, u_w4, r_w5, u_w5, r_w6, u_w6, r_w7, u_w7, r_w8, u_w8, r_w9, u_w9, r_wa, u_wa, nI_leI', hkn]
        refine ⟨hB.p3 ht, c_at (n := inN σ t) (hB.p3 (i := t) ht).o2 (by simp (disch := omega) only [← Nat.add_assoc, true_and, and_true, true_implies, forall_eq, forall_eq', not_true, not_false_iff, false_implies, Option.some.injEq, reduceCtorEq, exists_eq_left', implies_true, nl_1, nr_1, ix_nI, vpT, r_b_q, u_b_q, r_b_tk, u_b_tk, r_b_lt, u_b_lt, r_b_tm, u_b_tm, r_b_tt, u_b_tt, r_b_at, u_b_at, r_b_qt, u_b_qt, r_b_rt, u_b_rt, r_b_id, u_b_id, r_b_ov, u_b_ov, r_set0, u_set0, r_set1, u_set1, r_set2, u_set2, r_lent, u_lent, r_m1, u_m1, r_m2, u_m2, r_m3, u_m3, r_m4, u_m4, r_m5, u_m5, r_m6, u_m6, r_m7, u_m7, r_ml, u_ml, r_mr, u_mr, r_tc, u_tc, r_tn0, u_tn0, r_tn1, u_tn1, r_tn2, u_tn2, r_tl, u_tl, r_tr, u_tr, r_w0, u_w0, r_w1, u_w1, r_w2, u_w2, r_w3, u_w3, r_w4, u_w4, r_w5, u_w5, r_w6, u_w6, r_w7, u_w7, r_w8, u_w8, r_w9, u_w9, r_wa, u_wa, e1]) (by omega) (by omega) ?_⟩
        simp (disch := omega) only [← Nat.add_assoc, true_and, and_true, true_implies, forall_eq, forall_eq', not_true, not_false_iff, false_implies, Option.some.injEq, reduceCtorEq, exists_eq_left', implies_true, nl_1, nr_1, ix_nI, vpT, r_b_q, u_b_q, r_b_tk, u_b_tk, r_b_lt, u_b_lt, r_b_tm, u_b_tm, r_b_tt, u_b_tt, r_b_at, u_b_at, r_b_qt, u_b_qt, r_b_rt, u_b_rt, r_b_id, u_b_id, r_b_ov, u_b_ov, r_set0, u_set0, r_set1, u_set1, r_set2, u_set2, r_lent, u_lent, r_m1, u_m1, r_m2, u_m2, r_m3, u_m3, r_m4, u_m4, r_m5, u_m5, r_m6, u_m6, r_m7, u_m7, r_ml, u_ml, r_mr, u_mr, r_tc, u_tc, r_tn0, u_tn0, r_tn1, u_tn1, r_tn2, u_tn2, r_tl, u_tl, r_tr, u_tr, r_w0, u_w0, r_w1, u_w1, r_w2, u_w2, r_w3, u_w3, r_w4, u_w4, r_w5, u_w5, r_w6, u_w6, r_w7, u_w7, r_w8, u_w8, r_w9, u_w9, r_wa, u_wa, e2]
        refine ⟨hB, c_questionAt hB (A := ix (σ 4)) (by simp (disch := omega) only [← Nat.add_assoc, true_and, and_true, true_implies, forall_eq, forall_eq', not_true, not_false_iff, false_implies, Option.some.injEq, reduceCtorEq, exists_eq_left', implies_true, nl_1, nr_1, ix_nI, vpT, r_b_q, u_b_q, r_b_tk, u_b_tk, r_b_lt, u_b_lt, r_b_tm, u_b_tm, r_b_tt, u_b_tt, r_b_at, u_b_at, r_b_qt, u_b_qt, r_b_rt, u_b_rt, r_b_id, u_b_id, r_b_ov, u_b_ov, r_set0, u_set0, r_set1, u_set1, r_set2, u_set2, r_lent, u_lent, r_m1, u_m1, r_m2, u_m2, r_m3, u_m3, r_m4, u_m4, r_m5, u_m5, r_m6, u_m6, r_m7, u_m7, r_ml, u_ml, r_mr, u_mr, r_tc, u_tc, r_tn0, u_tn0, r_tn1, u_tn1, r_tn2, u_tn2, r_tl, u_tl, r_tr, u_tr, r_w0, u_w0, r_w1, u_w1, r_w2, u_w2, r_w3, u_w3, r_w4, u_w4, r_w5, u_w5, r_w6, u_w6, r_w7, u_w7, r_w8, u_w8, r_w9, u_w9, r_wa, u_wa, e3]) hA q5 ?_⟩
        simp (disch := omega) only [← Nat.add_assoc, true_and, and_true, true_implies, forall_eq, forall_eq', not_true, not_false_iff, false_implies, Option.some.injEq, reduceCtorEq, exists_eq_left', implies_true, nl_1, nr_1, ix_nI, vpT, r_b_q, u_b_q, r_b_tk, u_b_tk, r_b_lt, u_b_lt, r_b_tm, u_b_tm, r_b_tt, u_b_tt, r_b_at, u_b_at, r_b_qt, u_b_qt, r_b_rt, u_b_rt, r_b_id, u_b_id, r_b_ov, u_b_ov, r_set0, u_set0, r_set1, u_set1, r_set2, u_set2, r_lent, u_lent, r_m1, u_m1, r_m2, u_m2, r_m3, u_m3, r_m4, u_m4, r_m5, u_m5, r_m6, u_m6, r_m7, u_m7, r_ml, u_ml, r_mr, u_mr, r_tc, u_tc, r_tn0, u_tn0, r_tn1, u_tn1, r_tn2, u_tn2, r_tl, u_tl, r_tr, u_tr, r_w0, u_w0, r_w1, u_w1, r_w2, u_w2, r_w3, u_w3, r_w4, u_w4, r_w5, u_w5, r_w6, u_w6, r_w7, u_w7, r_w8, u_w8, r_w9, u_w9, r_wa, u_wa, e5, e6]
        refine ⟨hB.p4 (by omega), ?_⟩
        cases hg : ansL σ t k with
        | none =>
          rw [hg] at ih1
          simp only [oI, true_implies, not_true, false_implies, and_true]
          refine ⟨fun c => ?_, fun c => ⟨hB.p4 (by omega), ?_⟩⟩
          · rw [if_neg (by simp [ansB, c])] at ih1
            exact ih1 z (fun g hg => by cases hg)
          · rw [if_pos (by simp [ansB, c])] at ih1
            exact ih1 _ (fun g hg => by cases hg; rfl)
        | some g =>
          rw [hg] at ih1
          have hgk := ansL_lt _ _ hg
          have hg5 := nI_ne5 (k := g) (by omega)
          have hz1 := hz g hg
          subst hz1
          simp only [oI, hg5, false_implies, not_false_iff, true_implies, true_and]
          refine ⟨fun c => ?_, fun c => ⟨fun d => ?_, fun d => ⟨hB.p4 (by omega), ?_⟩⟩⟩
          · rw [if_neg (by simp [ansB, c])] at ih1
            exact ih1 _ (fun g' hg' => by cases hg'; rfl)
          · rw [if_neg (by simp [ansB, Int32.not_lt.mpr d])] at ih1
            exact ih1 _ (fun g' hg' => by cases hg'; rfl)
          · rw [if_pos (by simp [ansB, c, Int32.not_le.mp d])] at ih1
            exact ih1 _ (fun g' hg' => by cases hg'; rfl)
    exact key (manyA σ t) 0 (by omega) z (fun g hg => by cases hg)
  have main0 := main 0
  have lt1 : (nI (inN σ t) < (1 : Int32)) = (inN σ t < 1) := nI_ltI' (b := 1) (by omega) (by decide)
  unfold w_X0_placeOfAnswer w_X0_placeOfAnswer_b14 w_X0_placeOfAnswer_b40
  simp (disch := omega) only [← Nat.add_assoc, true_and, and_true, true_implies, forall_eq, forall_eq', not_true, not_false_iff, false_implies, Option.some.injEq, reduceCtorEq, exists_eq_left', implies_true, nl_1, nr_1, ix_nI, vpT, r_b_q, u_b_q, r_b_tk, u_b_tk, r_b_lt, u_b_lt, r_b_tm, u_b_tm, r_b_tt, u_b_tt, r_b_at, u_b_at, r_b_qt, u_b_qt, r_b_rt, u_b_rt, r_b_id, u_b_id, r_b_ov, u_b_ov, r_set0, u_set0, r_set1, u_set1, r_set2, u_set2, r_lent, u_lent, r_m1, u_m1, r_m2, u_m2, r_m3, u_m3, r_m4, u_m4, r_m5, u_m5, r_m6, u_m6, r_m7, u_m7, r_ml, u_ml, r_mr, u_mr, r_tc, u_tc, r_tn0, u_tn0, r_tn1, u_tn1, r_tn2, u_tn2, r_tl, u_tl, r_tr, u_tr, r_w0, u_w0, r_w1, u_w1, r_w2, u_w2, r_w3, u_w3, r_w4, u_w4, r_w5, u_w5, r_w6, u_w6, r_w7, u_w7, r_w8, u_w8, r_w9, u_w9, r_wa, u_wa, e0, e1, z10]
  unfold manyA at main0
  refine ⟨hB.p3 ht, fun c => ⟨hB.p3 ht, ?_⟩, fun c => ⟨hB.p3 ht, ?_⟩⟩
  · rw [if_neg (fun q => c q.1)] at main0
    exact main0
  · by_cases d : 1 < inN σ t
    · rw [if_pos ⟨c, d⟩] at main0
      rw [if_neg (show ¬ nI (inN σ t) < 1 by rw [lt1]; omega)]
      exact main0
    · rw [if_neg (fun q => d q.2)] at main0
      by_cases e : inN σ t < 1
      · rw [if_pos (show nI (inN σ t) < 1 by rw [lt1]; exact e)]
        exact main0
      · rw [if_neg (show ¬ nI (inN σ t) < 1 by rw [lt1]; exact e)]
        rw [show inN σ t = 1 by omega] at main0
        exact main0
theorem c_target {Q : Int32 → MI → Prop} (hB : IsBus K R b) (hS : InvS σ) (hG : AgD ρ σ) (h : Q (oI (tgtO σ)) (stB J b ρ)) : w_X0_targetThatAnswers K R b (stB J b ρ) Q := by
  obtain ⟨ht, et, -⟩ := hS.turns
  have e6 : ρ 6 = nI (ix (σ 6)) := by rw [hG.1 6 (by omega) (by omega) (by omega)]; exact et
  unfold w_X0_targetThatAnswers w_X0_targetThatAnswers_b2
  intro X hX
  have key : ∀ d k, k + d = 4 → (∀ j, j < k → (ansO σ (t4 (ix (σ 6)) j)).isSome = false) → X (nI k) (stB J b ρ) := by
    intro d
    induction d with
    | zero =>
      intro k hk hj
      refine hX _ _ ?_
      have hk4 : 4 ≤ k := by omega
      unfold w_X0_targetThatAnswers_b2_body
      simp (disch := omega) only [← Nat.add_assoc, true_and, and_true, true_implies, forall_eq, forall_eq', not_true, not_false_iff, false_implies, Option.some.injEq, reduceCtorEq, exists_eq_left', implies_true, nl_1, nr_1, ix_nI, vpT, r_b_q, u_b_q, r_b_tk, u_b_tk, r_b_lt, u_b_lt, r_b_tm, u_b_tm, r_b_tt, u_b_tt, r_b_at, u_b_at, r_b_qt, u_b_qt, r_b_rt, u_b_rt, r_b_id, u_b_id, r_b_ov, u_b_ov, r_set0, u_set0, r_set1, u_set1, r_set2, u_set2, r_lent, u_lent, r_m1, u_m1, r_m2, u_m2, r_m3, u_m3, r_m4, u_m4, r_m5, u_m5, r_m6, u_m6, r_m7, u_m7, r_ml, u_ml, r_mr, u_mr, r_tc, u_tc, r_tn0, u_tn0, r_tn1, u_tn1, r_tn2, u_tn2, r_tl, u_tl, r_tr, u_tr, r_w0, u_w0, r_w1, u_w1, r_w2, u_w2, r_w3, u_w3, r_w4, u_w4, r_w5, u_w5, r_w6, u_w6, r_w7, u_w7, r_w8, u_w8, r_w9, u_w9, r_wa, u_wa, ll_4, hk4]
      have : tgtO σ = none := by unfold tgtO; rw [find_none (fun j h => hj j (by omega))]; rfl
      rw [this] at h
      exact h
    | succ d ih =>
      intro k hk hj
      refine hX _ _ ?_
      have hk4 : ¬ 4 ≤ k := by omega
      unfold w_X0_targetThatAnswers_b2_body w_X0_targetThatAnswers_b38
      simp (disch := omega) only [← Nat.add_assoc, true_and, and_true, true_implies, forall_eq, forall_eq', not_true, not_false_iff, false_implies, Option.some.injEq, reduceCtorEq, exists_eq_left', implies_true, nl_1, nr_1, ix_nI, vpT, r_b_q, u_b_q, r_b_tk, u_b_tk, r_b_lt, u_b_lt, r_b_tm, u_b_tm, r_b_tt, u_b_tt, r_b_at, u_b_at, r_b_qt, u_b_qt, r_b_rt, u_b_rt, r_b_id, u_b_id, r_b_ov, u_b_ov, r_set0, u_set0, r_set1, u_set1, r_set2, u_set2, r_lent, u_lent, r_m1, u_m1, r_m2, u_m2, r_m3, u_m3, r_m4, u_m4, r_m5, u_m5, r_m6, u_m6, r_m7, u_m7, r_ml, u_ml, r_mr, u_mr, r_tc, u_tc, r_tn0, u_tn0, r_tn1, u_tn1, r_tn2, u_tn2, r_tl, u_tl, r_tr, u_tr, r_w0, u_w0, r_w1, u_w1, r_w2, u_w2, r_w3, u_w3, r_w4, u_w4, r_w5, u_w5, r_w6, u_w6, r_w7, u_w7, r_w8, u_w8, r_w9, u_w9, r_wa, u_wa, ll_4, hk4, e6]
      rw [nI_add, nI_t4 (by omega)]
      refine ⟨hB, c_targetAt hB (t4_lt _ _) ?_⟩
      simp (disch := omega) only [← Nat.add_assoc, true_and, and_true, true_implies, forall_eq, forall_eq', not_true, not_false_iff, false_implies, Option.some.injEq, reduceCtorEq, exists_eq_left', implies_true, nl_1, nr_1, ix_nI, vpT, r_b_q, u_b_q, r_b_tk, u_b_tk, r_b_lt, u_b_lt, r_b_tm, u_b_tm, r_b_tt, u_b_tt, r_b_at, u_b_at, r_b_qt, u_b_qt, r_b_rt, u_b_rt, r_b_id, u_b_id, r_b_ov, u_b_ov, r_set0, u_set0, r_set1, u_set1, r_set2, u_set2, r_lent, u_lent, r_m1, u_m1, r_m2, u_m2, r_m3, u_m3, r_m4, u_m4, r_m5, u_m5, r_m6, u_m6, r_m7, u_m7, r_ml, u_ml, r_mr, u_mr, r_tc, u_tc, r_tn0, u_tn0, r_tn1, u_tn1, r_tn2, u_tn2, r_tl, u_tl, r_tr, u_tr, r_w0, u_w0, r_w1, u_w1, r_w2, u_w2, r_w3, u_w3, r_w4, u_w4, r_w5, u_w5, r_w6, u_w6, r_w7, u_w7, r_w8, u_w8, r_w9, u_w9, r_wa, u_wa]
      refine c_place hB hS hG (t4_lt _ _) ?_
      cases ha : ansO σ (t4 (ix (σ 6)) k) with
      | none =>
        refine ⟨fun _ => ?_, fun c => absurd rfl c⟩
        exact ih (k + 1) (by omega) (fun j h2 => by
          rcases Nat.lt_succ_iff_lt_or_eq.mp h2 with h3 | h3
          · exact hj j h3
          · subst h3; exact isSome_f ha)
      | some g =>
        have hg := ansO_lt ha
        have hn := (hS.lists (t := t4 (ix (σ 6)) k) (t4_lt _ _)).1
        refine ⟨fun c => absurd c (nI_ne5 (by omega)), fun _ => ?_⟩
        have : tgtO σ = some (t4 (ix (σ 6)) k) := by unfold tgtO; rw [find_some (k := k) (by omega) (isSome_t ha) hj]; rfl
        rw [this] at h
        exact h
  exact key 4 0 rfl (fun j h => absurd h (by omega))
end CC
