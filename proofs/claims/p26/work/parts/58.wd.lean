def wdS (σ : Sr) (m L q : Nat) : Sr := su (su (su σ (21 + 11 * m + 0) (nI (L - 1))) (161 + 11 * q + 4) 4) (21 + 11 * m + 10) (if nI (L - 1) = 0 then 0 else σ (21 + 11 * m + 10))
def wdC (σ : Sr) (m L q : Nat) : Sr := su (su (su σ (21 + 11 * m + 0) (nI (L - 1))) (21 + 11 * m + 10) (if nI (L - 1) = 0 then 0 else σ (21 + 11 * m + 10))) (161 + 11 * q + 4) 4
section WD
variable {K : MK} {R : MR} {I J : MI} {t r b : Nat} {S : St} {σ ρ : Sr} {m L q : Nat}
theorem wdS_C (hm : m < 4) : wdS σ m L q = wdC σ m L q := by
  unfold wdS wdC
  exact su_comm (by omega)
theorem wdS_n {s : Nat} (h : s ≠ 21 + 11 * m + 0 ∧ s ≠ 161 + 11 * q + 4 ∧ s ≠ 21 + 11 * m + 10) : wdS σ m L q s = σ s := by
  unfold wdS
  rw [su_n h.2.2, su_n h.2.1, su_n h.1]
theorem wdS_4 (hm : m < 4) : wdS σ m L q (161 + 11 * q + 4) = 4 := by
  unfold wdS
  rw [su_n (by omega), su_s]
theorem wd_rel (hR : RelB ρ σ) (hm : m < 4) (hL : loN σ m = L) (h1 : 1 ≤ L) (hq : rwq σ m (L - 1) = q) : RelB (wdC ρ m L q) (wdS σ m L q) := by
  obtain ⟨hS, hM, ⟨g1, g2⟩, hLT, hC⟩ := hR
  obtain ⟨hA4, hA⟩ := hS.A4
  obtain ⟨hr6, er, hrow⟩ := hS.rows hm
  rw [hL] at hr6 er hrow
  obtain ⟨p1, p2, p3, p4, p5, p6, p7⟩ := hrow (L - 1) (by omega)
  rw [hq] at p1 p2 p3 p4 p5 p7
  have hS0 := hS
  have hn : ∀ s, (s ≠ 21 + 11 * m + 0 ∧ s ≠ 161 + 11 * q + 4 ∧ s ≠ 21 + 11 * m + 10) → wdS σ m L q s = σ s := fun s h => wdS_n h
  have hc : ∀ s, (s ≠ 21 + 11 * m + 0 ∧ s ≠ 161 + 11 * q + 4 ∧ s ≠ 21 + 11 * m + 10) → wdC ρ m L q s = ρ s := fun s h => by rw [← wdS_C hm]; exact wdS_n h
  have s0 : wdS σ m L q (21 + 11 * m + 0) = nI (L - 1) := by unfold wdS; rw [su_n (by omega), su_n (by omega), su_s]
  have w4 : wdS σ m L q (161 + 11 * q + 4) = 4 := wdS_4 hm
  refine ⟨?_, by rw [hn 2 (by omega)]; exact hM, ⟨?_, ?_⟩, by rw [hn 5 (by omega), hc 5 (by omega)]; exact hLT, hC.fr hS0 (fun k hk => hc k (by omega)) (hn 1 (by omega)) (hn 4 (by omega)) (fun k hk => hn _ (by omega)) (fun q' hq' => hn _ (by omega)) (fun q' hq' => ?_) (fun q' hq' => hn _ (by omega))⟩
  · obtain ⟨T, A, a1, a2, a3, a4, a5, a6, a7, a8, a9, a10, a11⟩ := hS
    have hAA : ix (σ 4) = A := ix_eq a4 (by omega)
    refine ⟨T, A, by rw [hn _ (by omega)]; exact a1, a2, a3, by rw [hn _ (by omega)]; exact a4, a5, by rw [hn _ (by omega)]; exact a6, by rw [hn _ (by omega)]; exact a7, fun k hk => (a8 k hk).fr (hn _ (by omega)) (Nat.le_refl _), fun m' hm' => ?_, fun t ht => (a10 t ht).fr (fun w hw' => hn _ (by omega)) (fun n j q' k g0 g1 g2 g3 g4 g5 g6 g7 g8 => ?_) (Nat.le_refl _), fun q' hq' => (a11 q' hq').fr (fun w hw' => hn _ (by omega))⟩
    · by_cases e : m' = m
      · subst e
        refine ⟨L - 1, by omega, s0, fun j hj => ?_⟩
        obtain ⟨q1, q2, q3, q4, q5, q6, q7⟩ := hrow j (by omega)
        have hne : rwq σ m' j ≠ q := fun e => by
          have := p7 j hj
          rw [q3, e] at this
          exact this rfl
        exact ⟨rwq σ m' j, by omega, by rw [hn _ (by omega)]; exact q3, by rw [hn _ (by omega)]; exact q4, by rw [hn _ (by omega)]; exact q5, fun i hi => by rw [hn _ (by omega)]; exact q7 i hi⟩
      · refine (a9 m' hm').fr (fun w hw' => hn _ (by omega)) (fun L' j q' g0 g1 g2 g3 g4 g5 => ?_) (Nat.le_refl _)
        have hne : q' ≠ q := fun e2 => by
          obtain ⟨L2, l1, l2, l3⟩ := a9 m' hm'
          have : L2 = L' := nI_inj (by omega) (by omega) (by rw [← l2, g1])
          subst this
          obtain ⟨q2, z1, z2, z3, z4, -⟩ := l3 j g2
          have : q2 = q' := nI_inj (by omega) (by omega) (by rw [← z2, g4])
          subst this
          rw [e2, p5] at z4
          exact e (nI_inj (by omega) (by omega) z4).symm
        exact ⟨by rw [hn _ (by omega)]; exact g5, hn _ (by omega)⟩
    · have hne : q' ≠ q := fun e => by
        subst e
        unfold OnT at g5
        rw [p4] at g5
        rcases g5 with g5 | g5 <;> exact absurd g5 (by decide)
      exact ⟨by unfold OnT at g5 ⊢; rw [hn _ (by omega)]; exact g5, hn _ (by omega), hn _ (by omega), hn _ (by omega)⟩
  · rw [hn 4 (by omega), wdS_C hm]
    unfold wdC
    have e10 := g1 (21 + 11 * m + 10) (by omega) (by omega) (by omega)
    rw [e10]
    exact g1.both.both.both
  · rw [hn 4 (by omega)]
    refine g2.fr (fun q' hq' ho => ?_)
    have hne : q' ≠ q := fun e => by
      subst e
      unfold OnT at ho
      rw [w4] at ho
      rcases ho with ho | ho <;> exact absurd ho (by decide)
    refine ⟨?_, hc _ (by omega), hn _ (by omega)⟩
    unfold OnT at ho ⊢
    rw [hn _ (by omega)] at ho
    exact ho
  · by_cases e : q' = q
    · subst e
      rw [w4, p4]
      decide
    · rw [hn _ (by omega)]
theorem wd_wok (hW : WOK σ) (hm : m < 4) : WOK (wdS σ m L q) := by
  intro q' hq'
  rw [wdS_n (by omega)] at hq'
  by_cases e : q' = q
  · subst e
    exact Or.inr (Or.inr (Or.inr (Or.inr (wdS_4 hm))))
  · rw [wdS_n (by omega)]
    exact hW q' hq'
theorem c_takeLast {Q : Int32 → MI → Prop} (hB : IsBus K R b) (hR : RelB ρ σ) (hm : m < 4) (hL : loN σ m = L) (h1 : 1 ≤ L) (hq : rwq σ m (L - 1) = q) (h : ∀ ρ', RelB ρ' (wdS σ m L q) → Q (nI q) (stB J b ρ')) : w_X0_takeLastOf K R b (some (b + 6 + 3 * m)) (stB J b ρ) Q := by
  have key := h _ (wd_rel hR hm hL h1 hq)
  have hS := hR.1
  have g1 := hR.2.2.1.1
  obtain ⟨hA4, hA⟩ := hS.A4
  obtain ⟨hr6, er, hrow⟩ := hS.rows hm
  rw [hL] at hr6 er hrow
  obtain ⟨p1, p2, p3, p4, p5, p6, p7⟩ := hrow (L - 1) (by omega)
  rw [hq] at p1 p2 p3
  have e4 : ρ 4 = nI (ix (σ 4)) := by rw [g1 4 (by omega) (by omega) (by omega)]; exact hA4
  have el : ρ (21 + 11 * m + 0) = nI L := by rw [g1 _ (by omega) (by omega) (by omega)]; exact er
  have eq : ρ (21 + 11 * m + 1 + (L - 1)) = nI q := by rw [g1 _ (by omega) (by omega) (by omega)]; exact p3
  have hLn := (hB.p2 (i := m) hm).o0
  unfold w_X0_takeLastOf
  simp (disch := omega) only [← Nat.add_assoc, true_and, and_true, true_implies, forall_eq, forall_eq', not_true, not_false_iff, false_implies, Option.some.injEq, reduceCtorEq, exists_eq_left', implies_true, nl_1, nr_1, ix_nI, vpT, r_b_q, u_b_q, r_b_tk, u_b_tk, r_b_lt, u_b_lt, r_b_tm, u_b_tm, r_b_tt, u_b_tt, r_b_at, u_b_at, r_b_qt, u_b_qt, r_b_rt, u_b_rt, r_b_id, u_b_id, r_b_ov, u_b_ov, r_set0, u_set0, r_set1, u_set1, r_set2, u_set2, r_lent, u_lent, r_m1, u_m1, r_m2, u_m2, r_m3, u_m3, r_m4, u_m4, r_m5, u_m5, r_m6, u_m6, r_m7, u_m7, r_ml, u_ml, r_mr, u_mr, r_tc, u_tc, r_tn0, u_tn0, r_tn1, u_tn1, r_tn2, u_tn2, r_tl, u_tl, r_tr, u_tr, r_w0, u_w0, r_w1, u_w1, r_w2, u_w2, r_w3, u_w3, r_w4, u_w4, r_w5, u_w5, r_w6, u_w6, r_w7, u_w7, r_w8, u_w8, r_w9, u_w9, r_wa, u_wa, el]
  rw [nI_sub1 h1]
  refine ⟨hB.p2 hm, c_at (n := L) hLn (by simp (disch := omega) only [← Nat.add_assoc, true_and, and_true, true_implies, forall_eq, forall_eq', not_true, not_false_iff, false_implies, Option.some.injEq, reduceCtorEq, exists_eq_left', implies_true, nl_1, nr_1, ix_nI, vpT, r_b_q, u_b_q, r_b_tk, u_b_tk, r_b_lt, u_b_lt, r_b_tm, u_b_tm, r_b_tt, u_b_tt, r_b_at, u_b_at, r_b_qt, u_b_qt, r_b_rt, u_b_rt, r_b_id, u_b_id, r_b_ov, u_b_ov, r_set0, u_set0, r_set1, u_set1, r_set2, u_set2, r_lent, u_lent, r_m1, u_m1, r_m2, u_m2, r_m3, u_m3, r_m4, u_m4, r_m5, u_m5, r_m6, u_m6, r_m7, u_m7, r_ml, u_ml, r_mr, u_mr, r_tc, u_tc, r_tn0, u_tn0, r_tn1, u_tn1, r_tn2, u_tn2, r_tl, u_tl, r_tr, u_tr, r_w0, u_w0, r_w1, u_w1, r_w2, u_w2, r_w3, u_w3, r_w4, u_w4, r_w5, u_w5, r_w6, u_w6, r_w7, u_w7, r_w8, u_w8, r_w9, u_w9, r_wa, u_wa, el]) hr6 (by omega) ?_⟩
  rw [r_mr hm (by omega), eq]
  unfold w_X1_removeAt w_X1_removeAt_b16
  simp (disch := omega) only [← Nat.add_assoc, true_and, and_true, true_implies, forall_eq, forall_eq', not_true, not_false_iff, false_implies, Option.some.injEq, reduceCtorEq, exists_eq_left', implies_true, nl_1, nr_1, ix_nI, vpT, r_b_q, u_b_q, r_b_tk, u_b_tk, r_b_lt, u_b_lt, r_b_tm, u_b_tm, r_b_tt, u_b_tt, r_b_at, u_b_at, r_b_qt, u_b_qt, r_b_rt, u_b_rt, r_b_id, u_b_id, r_b_ov, u_b_ov, r_set0, u_set0, r_set1, u_set1, r_set2, u_set2, r_lent, u_lent, r_m1, u_m1, r_m2, u_m2, r_m3, u_m3, r_m4, u_m4, r_m5, u_m5, r_m6, u_m6, r_m7, u_m7, r_ml, u_ml, r_mr, u_mr, r_tc, u_tc, r_tn0, u_tn0, r_tn1, u_tn1, r_tn2, u_tn2, r_tl, u_tl, r_tr, u_tr, r_w0, u_w0, r_w1, u_w1, r_w2, u_w2, r_w3, u_w3, r_w4, u_w4, r_w5, u_w5, r_w6, u_w6, r_w7, u_w7, r_w8, u_w8, r_w9, u_w9, r_wa, u_wa, el]
  refine ⟨hLn, c_idx1 (n := L) (by omega) (by omega) ⟨fun _ => ?_, fun c => absurd c z10⟩⟩
  intro X hX
  refine hX _ _ ?_
  have hle : L ≤ L - 1 + 1 := by omega
  unfold w_X1_removeAt_b16_body w_X1_removeAt_b50
  simp (disch := omega) only [← Nat.add_assoc, true_and, and_true, true_implies, forall_eq, forall_eq', not_true, not_false_iff, false_implies, Option.some.injEq, reduceCtorEq, exists_eq_left', implies_true, nl_1, nr_1, ix_nI, vpT, r_b_q, u_b_q, r_b_tk, u_b_tk, r_b_lt, u_b_lt, r_b_tm, u_b_tm, r_b_tt, u_b_tt, r_b_at, u_b_at, r_b_qt, u_b_qt, r_b_rt, u_b_rt, r_b_id, u_b_id, r_b_ov, u_b_ov, r_set0, u_set0, r_set1, u_set1, r_set2, u_set2, r_lent, u_lent, r_m1, u_m1, r_m2, u_m2, r_m3, u_m3, r_m4, u_m4, r_m5, u_m5, r_m6, u_m6, r_m7, u_m7, r_ml, u_ml, r_mr, u_mr, r_tc, u_tc, r_tn0, u_tn0, r_tn1, u_tn1, r_tn2, u_tn2, r_tl, u_tl, r_tr, u_tr, r_w0, u_w0, r_w1, u_w1, r_w2, u_w2, r_w3, u_w3, r_w4, u_w4, r_w5, u_w5, r_w6, u_w6, r_w7, u_w7, r_w8, u_w8, r_w9, u_w9, r_wa, u_wa, el, nI_leI', hle]
  rw [nI_sub1 h1]
  have b42 : ∀ ρ2, ρ2 4 = ρ 4 → Q (nI q) (stB J b (su ρ2 (161 + 11 * q + 4) 4)) → w_X0_takeLastOf_b42 K R b (some (b + 6 + 3 * m)) Q (nI q) (stB J b ρ2) := by
    intro ρ2 h4 hh
    unfold w_X0_takeLastOf_b42 w_X0_takeLastOf_b60
    refine ⟨hB, c_questionAt hB (A := ix (σ 4)) (by rw [r_b_q, h4, e4]) hA p2 ⟨fun z => (by cases z), fun r4 e => ?_⟩⟩
    cases e
    simp (disch := omega) only [← Nat.add_assoc, true_and, and_true, true_implies, forall_eq, forall_eq', not_true, not_false_iff, false_implies, Option.some.injEq, reduceCtorEq, exists_eq_left', implies_true, nl_1, nr_1, ix_nI, vpT, r_b_q, u_b_q, r_b_tk, u_b_tk, r_b_lt, u_b_lt, r_b_tm, u_b_tm, r_b_tt, u_b_tt, r_b_at, u_b_at, r_b_qt, u_b_qt, r_b_rt, u_b_rt, r_b_id, u_b_id, r_b_ov, u_b_ov, r_set0, u_set0, r_set1, u_set1, r_set2, u_set2, r_lent, u_lent, r_m1, u_m1, r_m2, u_m2, r_m3, u_m3, r_m4, u_m4, r_m5, u_m5, r_m6, u_m6, r_m7, u_m7, r_ml, u_ml, r_mr, u_mr, r_tc, u_tc, r_tn0, u_tn0, r_tn1, u_tn1, r_tn2, u_tn2, r_tl, u_tl, r_tr, u_tr, r_w0, u_w0, r_w1, u_w1, r_w2, u_w2, r_w3, u_w3, r_w4, u_w4, r_w5, u_w5, r_w6, u_w6, r_w7, u_w7, r_w8, u_w8, r_w9, u_w9, r_wa, u_wa]
    exact ⟨hB.p4 p1, hh⟩
  simp (disch := omega) only [su_s]
  unfold wdC at key
  refine ⟨hLn, hLn, fun c => b42 _ (su_n (by omega)) ?_, fun c => b42 _ (by rw [su_n (by omega), su_n (by omega)]) ?_⟩
  · rw [if_neg c] at key
    have e10 := su_id (su ρ (21 + 11 * m + 0) (nI (L - 1))) (21 + 11 * m + 10)
    rw [su_n (by omega)] at e10
    rw [e10] at key
    exact key
  · rw [if_pos c] at key
    exact key
end WD
