section GT
variable {K : MK} {R : MR} {I J : MI} {t r b : Nat} {S : St}
def dnB (σ : Sr) (t j : Nat) : Bool := σ (161 + 11 * lsq σ t j + 4) == 2
theorem c_doneIn {Q : Int32 → MI → Prop} {m : Nat} {ρ σ : Sr} (hB : IsBus K R b) (hS : InvS σ) (hG : AgD ρ σ) (hm : m < 4) (h : Q (nI (cnt (dnB σ m) (inN σ m))) (stB J b ρ)) : w_X0_doneIn K R b (some (b + 18 + 5 * m)) (stB J b ρ) Q := by
  obtain ⟨hn, en, hj⟩ := hS.lists hm
  obtain ⟨g1, g2⟩ := hG
  obtain ⟨hA4, hA⟩ := hS.A4
  have e1 : ρ (65 + 24 * m + 19) = nI (inN σ m) := by rw [g1 _ (by omega) (by omega) (by omega)]; exact en
  have e3 : ρ 4 = nI (ix (σ 4)) := by rw [g1 4 (by omega) (by omega) (by omega)]; exact hA4
  unfold w_X0_doneIn w_X0_doneIn_b4
  intro X hX
  have key : ∀ d k, k + d = inN σ m → X (nI (cnt (dnB σ m) k)) (nI k) (stB J b ρ) := by
    intro d
    induction d with
    | zero =>
      intro k hk
      refine hX _ _ _ ?_
      have hle : inN σ m ≤ k := by omega
      have hk2 : k = inN σ m := by omega
      unfold w_X0_doneIn_b4_body
      simp (disch := omega) only [← Nat.add_assoc, true_and, and_true, true_implies, forall_eq, forall_eq', not_true, not_false_iff, false_implies, Option.some.injEq, reduceCtorEq, exists_eq_left', implies_true, nl_1, nr_1, ix_nI, vpT, r_b_q, u_b_q, r_b_tk, u_b_tk, r_b_lt, u_b_lt, r_b_tm, u_b_tm, r_b_tt, u_b_tt, r_b_at, u_b_at, r_b_qt, u_b_qt, r_b_rt, u_b_rt, r_b_id, u_b_id, r_b_ov, u_b_ov, r_set0, u_set0, r_set1, u_set1, r_set2, u_set2, r_lent, u_lent, r_m1, u_m1, r_m2, u_m2, r_m3, u_m3, r_m4, u_m4, r_m5, u_m5, r_m6, u_m6, r_m7, u_m7, r_ml, u_ml, r_mr, u_mr, r_tc, u_tc, r_tn0, u_tn0, r_tn1, u_tn1, r_tn2, u_tn2, r_tl, u_tl, r_tr, u_tr, r_w0, u_w0, r_w1, u_w1, r_w2, u_w2, r_w3, u_w3, r_w4, u_w4, r_w5, u_w5, r_w6, u_w6, r_w7, u_w7, r_w8, u_w8, r_w9, u_w9, r_wa, u_wa, e1, nI_leI', hle]
      rw [hk2]
      exact ⟨hB.p3 hm, h⟩
    | succ d ih =>
      intro k hk
      refine hX _ _ _ ?_
      have hle : ¬ inN σ m ≤ k := by omega
      obtain ⟨q1, q2, -⟩ := hj k (by omega)
      have q5 := (hS.lists2 hm (j := k) (by omega)).1
      have ih1 := ih (k + 1) (by omega)
      have e2 : ρ (65 + 24 * m + 20 + k) = nI (lsq σ m k) := by rw [g1 _ (by omega) (by omega) (by omega)]; exact q2
      have e5 := g1.d q5 (w := 4) (by omega)
      unfold w_X0_doneIn_b4_body w_X0_doneIn_b46
      simp (disch := omega) only [← Nat.add_assoc, true_and, and_true, true_implies, forall_eq, forall_eq', not_true, not_false_iff, false_implies, Option.some.injEq, reduceCtorEq, exists_eq_left', implies_true, nl_1, nr_1, ix_nI, vpT, r_b_q, u_b_q, r_b_tk, u_b_tk, r_b_lt, u_b_lt, r_b_tm, u_b_tm, r_b_tt, u_b_tt, r_b_at, u_b_at, r_b_qt, u_b_qt, r_b_rt, u_b_rt, r_b_id, u_b_id, r_b_ov, u_b_ov, r_set0, u_set0, r_set1, u_set1, r_set2, u_set2, r_lent, u_lent, r_m1, u_m1, r_m2, u_m2, r_m3, u_m3, r_m4, u_m4, r_m5, u_m5, r_m6, u_m6, r_m7, u_m7, r_ml, u_ml, r_mr, u_mr, r_tc, u_tc, r_tn0, u_tn0, r_tn1, u_tn1, r_tn2, u_tn2, r_tl, u_tl, r_tr, u_tr, r_w0, u_w0, r_w1, u_w1, r_w2, u_w2, r_w3, u_w3, r_w4, u_w4, r_w5, u_w5, r_w6, u_w6, r_w7, u_w7, r_w8, u_w8, r_w9, u_w9, r_wa, u_wa, e1, nI_leI', hle]
      refine ⟨hB.p3 hm, c_at (n := inN σ m) (hB.p3 (i := m) hm).o2 (by simp (disch := omega) only [← Nat.add_assoc, true_and, and_true, true_implies, forall_eq, forall_eq', not_true, not_false_iff, false_implies, Option.some.injEq, reduceCtorEq, exists_eq_left', implies_true, nl_1, nr_1, ix_nI, vpT, r_b_q, u_b_q, r_b_tk, u_b_tk, r_b_lt, u_b_lt, r_b_tm, u_b_tm, r_b_tt, u_b_tt, r_b_at, u_b_at, r_b_qt, u_b_qt, r_b_rt, u_b_rt, r_b_id, u_b_id, r_b_ov, u_b_ov, r_set0, u_set0, r_set1, u_set1, r_set2, u_set2, r_lent, u_lent, r_m1, u_m1, r_m2, u_m2, r_m3, u_m3, r_m4, u_m4, r_m5, u_m5, r_m6, u_m6, r_m7, u_m7, r_ml, u_ml, r_mr, u_mr, r_tc, u_tc, r_tn0, u_tn0, r_tn1, u_tn1, r_tn2, u_tn2, r_tl, u_tl, r_tr, u_tr, r_w0, u_w0, r_w1, u_w1, r_w2, u_w2, r_w3, u_w3, r_w4, u_w4, r_w5, u_w5, r_w6, u_w6, r_w7, u_w7, r_w8, u_w8, r_w9, u_w9, r_wa, u_wa, e1]) (by omega) (by omega) ?_⟩
      simp (disch := omega) only [← Nat.add_assoc, true_and, and_true, true_implies, forall_eq, forall_eq', not_true, not_false_iff, false_implies, Option.some.injEq, reduceCtorEq, exists_eq_left', implies_true, nl_1, nr_1, ix_nI, vpT, r_b_q, u_b_q, r_b_tk, u_b_tk, r_b_lt, u_b_lt, r_b_tm, u_b_tm, r_b_tt, u_b_tt, r_b_at, u_b_at, r_b_qt, u_b_qt, r_b_rt, u_b_rt, r_b_id, u_b_id, r_b_ov, u_b_ov, r_set0, u_set0, r_set1, u_set1, r_set2, u_set2, r_lent, u_lent, r_m1, u_m1, r_m2, u_m2, r_m3, u_m3, r_m4, u_m4, r_m5, u_m5, r_m6, u_m6, r_m7, u_m7, r_ml, u_ml, r_mr, u_mr, r_tc, u_tc, r_tn0, u_tn0, r_tn1, u_tn1, r_tn2, u_tn2, r_tl, u_tl, r_tr, u_tr, r_w0, u_w0, r_w1, u_w1, r_w2, u_w2, r_w3, u_w3, r_w4, u_w4, r_w5, u_w5, r_w6, u_w6, r_w7, u_w7, r_w8, u_w8, r_w9, u_w9, r_wa, u_wa, e2]
      refine ⟨hB, c_questionAt hB (A := ix (σ 4)) (by simp (disch := omega) only [← Nat.add_assoc, true_and, and_true, true_implies, forall_eq, forall_eq', not_true, not_false_iff, false_implies, Option.some.injEq, reduceCtorEq, exists_eq_left', implies_true, nl_1, nr_1, ix_nI, vpT, r_b_q, u_b_q, r_b_tk, u_b_tk, r_b_lt, u_b_lt, r_b_tm, u_b_tm, r_b_tt, u_b_tt, r_b_at, u_b_at, r_b_qt, u_b_qt, r_b_rt, u_b_rt, r_b_id, u_b_id, r_b_ov, u_b_ov, r_set0, u_set0, r_set1, u_set1, r_set2, u_set2, r_lent, u_lent, r_m1, u_m1, r_m2, u_m2, r_m3, u_m3, r_m4, u_m4, r_m5, u_m5, r_m6, u_m6, r_m7, u_m7, r_ml, u_ml, r_mr, u_mr, r_tc, u_tc, r_tn0, u_tn0, r_tn1, u_tn1, r_tn2, u_tn2, r_tl, u_tl, r_tr, u_tr, r_w0, u_w0, r_w1, u_w1, r_w2, u_w2, r_w3, u_w3, r_w4, u_w4, r_w5, u_w5, r_w6, u_w6, r_w7, u_w7, r_w8, u_w8, r_w9, u_w9, r_wa, u_wa, e3]) hA q5 ?_⟩
      simp (disch := omega) only [← Nat.add_assoc, true_and, and_true, true_implies, forall_eq, forall_eq', not_true, not_false_iff, false_implies, Option.some.injEq, reduceCtorEq, exists_eq_left', implies_true, nl_1, nr_1, ix_nI, vpT, r_b_q, u_b_q, r_b_tk, u_b_tk, r_b_lt, u_b_lt, r_b_tm, u_b_tm, r_b_tt, u_b_tt, r_b_at, u_b_at, r_b_qt, u_b_qt, r_b_rt, u_b_rt, r_b_id, u_b_id, r_b_ov, u_b_ov, r_set0, u_set0, r_set1, u_set1, r_set2, u_set2, r_lent, u_lent, r_m1, u_m1, r_m2, u_m2, r_m3, u_m3, r_m4, u_m4, r_m5, u_m5, r_m6, u_m6, r_m7, u_m7, r_ml, u_ml, r_mr, u_mr, r_tc, u_tc, r_tn0, u_tn0, r_tn1, u_tn1, r_tn2, u_tn2, r_tl, u_tl, r_tr, u_tr, r_w0, u_w0, r_w1, u_w1, r_w2, u_w2, r_w3, u_w3, r_w4, u_w4, r_w5, u_w5, r_w6, u_w6, r_w7, u_w7, r_w8, u_w8, r_w9, u_w9, r_wa, u_wa, e5]
      refine ⟨hB.p4 (by omega), fun c => ?_, fun c => ?_⟩
      · have hb : dnB σ m k = false := beq_eq_false_iff_ne.mpr c
        rw [cnt_f hb] at ih1
        exact ih1
      · have hb : dnB σ m k = true := by unfold dnB; rw [c]; rfl
        rw [cnt_t hb] at ih1
        exact ih1
  exact key (inN σ m) 0 (by omega)
end GT
