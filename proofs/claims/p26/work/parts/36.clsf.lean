def RelB (ρ σ : Sr) : Prop := InvS σ ∧ (σ 2 = 0 ∨ σ 2 = 1 ∨ σ 2 = 2) ∧ AgD ρ σ ∧ (ρ 5 = 0 ∨ ρ 5 = 2 ↔ σ 5 = 0) ∧ Cn ρ σ
theorem nI_s1 (k : Nat) : nI (k + 1) - (1 : Int32) = nI k := by rw [nI_sub1 (by omega), Nat.add_sub_cancel]
theorem su_id (σ : Sr) (k : Nat) : su σ k (σ k) = σ := by
  funext j
  by_cases hj : j = k
  · subst hj; rw [su_s]
  · rw [su_n hj]
section CF
variable {K : MK} {R : MR} {I J : MI} {b : Nat} {σ ρ : Sr}
theorem c_removeL {Q : MI → Prop} {t p : Nat} (hB : IsBus K R b) (ht : t < 4) (hp : p < inN ρ t) (hn : inN ρ t ≤ 4) (he : ρ (65 + 24 * t + 19) = nI (inN ρ t)) (h : Q (stB J b (remL ρ t p))) : w_X1_removeAt K R (b + 18 + 5 * t + 3) (nI p) (stB J b ρ) Q := by
  have hL := (hB.p3 (i := t) ht).o2
  unfold w_X1_removeAt
  refine ⟨hL, ?_⟩
  simp (disch := omega) only [← Nat.add_assoc, true_and, and_true, true_implies, forall_eq, forall_eq', not_true, not_false_iff, false_implies, Option.some.injEq, reduceCtorEq, exists_eq_left', implies_true, nl_1, nr_1, ix_nI, vpT, r_b_q, u_b_q, r_b_tk, u_b_tk, r_b_lt, u_b_lt, r_b_tm, u_b_tm, r_b_tt, u_b_tt, r_b_at, u_b_at, r_b_qt, u_b_qt, r_b_rt, u_b_rt, r_b_id, u_b_id, r_b_ov, u_b_ov, r_set0, u_set0, r_set1, u_set1, r_set2, u_set2, r_lent, u_lent, r_m1, u_m1, r_m2, u_m2, r_m3, u_m3, r_m4, u_m4, r_m5, u_m5, r_m6, u_m6, r_m7, u_m7, r_ml, u_ml, r_mr, u_mr, r_tc, u_tc, r_tn0, u_tn0, r_tn1, u_tn1, r_tn2, u_tn2, r_tl, u_tl, r_tr, u_tr, r_w0, u_w0, r_w1, u_w1, r_w2, u_w2, r_w3, u_w3, r_w4, u_w4, r_w5, u_w5, r_w6, u_w6, r_w7, u_w7, r_w8, u_w8, r_w9, u_w9, r_wa, u_wa, he]
  refine c_idx1 hp (by omega) ⟨fun _ => ?_, fun c => absurd c z10⟩
  unfold w_X1_removeAt_b16
  intro X hX
  have key : ∀ d i, i + d = inN ρ t - 1 - p → X (nI (p + i + 1)) (stB J b (shf ρ (65 + 24 * t + 20) p i)) := by
    intro d
    induction d with
    | zero =>
      intro i hi
      refine hX _ _ ?_
      have hle : inN ρ t ≤ p + i + 1 := by omega
      have hz : shf ρ (65 + 24 * t + 20) p i (65 + 24 * t + 19) = nI (inN ρ t) := by
        rw [shf_out _ (fun j h1 h2 => by omega)]
        exact he
      have hi3 : i = inN ρ t - 1 - p := by omega
      unfold remL at h
      rw [← hi3] at h
      unfold w_X1_removeAt_b16_body w_X1_removeAt_b50
      simp (disch := omega) only [← Nat.add_assoc, true_and, and_true, true_implies, forall_eq, forall_eq', not_true, not_false_iff, false_implies, Option.some.injEq, reduceCtorEq, exists_eq_left', implies_true, nl_1, nr_1, ix_nI, vpT, r_b_q, u_b_q, r_b_tk, u_b_tk, r_b_lt, u_b_lt, r_b_tm, u_b_tm, r_b_tt, u_b_tt, r_b_at, u_b_at, r_b_qt, u_b_qt, r_b_rt, u_b_rt, r_b_id, u_b_id, r_b_ov, u_b_ov, r_set0, u_set0, r_set1, u_set1, r_set2, u_set2, r_lent, u_lent, r_m1, u_m1, r_m2, u_m2, r_m3, u_m3, r_m4, u_m4, r_m5, u_m5, r_m6, u_m6, r_m7, u_m7, r_ml, u_ml, r_mr, u_mr, r_tc, u_tc, r_tn0, u_tn0, r_tn1, u_tn1, r_tn2, u_tn2, r_tl, u_tl, r_tr, u_tr, r_w0, u_w0, r_w1, u_w1, r_w2, u_w2, r_w3, u_w3, r_w4, u_w4, r_w5, u_w5, r_w6, u_w6, r_w7, u_w7, r_w8, u_w8, r_w9, u_w9, r_wa, u_wa, hz, nI_leI', hle]
      rw [hz] at h
      exact ⟨hL, hL, h⟩
    | succ d ih =>
      intro i hi
      refine hX _ _ ?_
      have hle : ¬ inN ρ t ≤ p + i + 1 := by omega
      have hle6 : ¬ 6 ≤ p + i + 1 := by omega
      have hz : shf ρ (65 + 24 * t + 20) p i (65 + 24 * t + 19) = nI (inN ρ t) := by
        rw [shf_out _ (fun j h1 h2 => by omega)]
        exact he
      have ih1 := ih (i + 1) (by omega)
      unfold shf at ih1
      unfold w_X1_removeAt_b16_body
      simp (disch := omega) only [← Nat.add_assoc, true_and, and_true, true_implies, forall_eq, forall_eq', not_true, not_false_iff, false_implies, Option.some.injEq, reduceCtorEq, exists_eq_left', implies_true, nl_1, nr_1, ix_nI, vpT, r_b_q, u_b_q, r_b_tk, u_b_tk, r_b_lt, u_b_lt, r_b_tm, u_b_tm, r_b_tt, u_b_tt, r_b_at, u_b_at, r_b_qt, u_b_qt, r_b_rt, u_b_rt, r_b_id, u_b_id, r_b_ov, u_b_ov, r_set0, u_set0, r_set1, u_set1, r_set2, u_set2, r_lent, u_lent, r_m1, u_m1, r_m2, u_m2, r_m3, u_m3, r_m4, u_m4, r_m5, u_m5, r_m6, u_m6, r_m7, u_m7, r_ml, u_ml, r_mr, u_mr, r_tc, u_tc, r_tn0, u_tn0, r_tn1, u_tn1, r_tn2, u_tn2, r_tl, u_tl, r_tr, u_tr, r_w0, u_w0, r_w1, u_w1, r_w2, u_w2, r_w3, u_w3, r_w4, u_w4, r_w5, u_w5, r_w6, u_w6, r_w7, u_w7, r_w8, u_w8, r_w9, u_w9, r_wa, u_wa, hz, nI_leI', hle, ll_6, hle6, nI_s1] at ih1 ⊢
      exact ⟨hL, ih1⟩
  exact key (inN ρ t - 1 - p) 0 (by omega)
theorem c_removeR {Q : MI → Prop} {m : Nat} (hB : IsBus K R b) (hm : m < 4) (hp : 0 < loN ρ m) (hn : loN ρ m ≤ 6) (he : ρ (21 + 11 * m + 0) = nI (loN ρ m)) (h : Q (stB J b (remR ρ m))) : w_X1_removeAt K R (b + 6 + 3 * m + 1) 0 (stB J b ρ) Q := by
  have hL := (hB.p2 (i := m) hm).o0
  unfold w_X1_removeAt
  refine ⟨hL, ?_⟩
  simp (disch := omega) only [← Nat.add_assoc, true_and, and_true, true_implies, forall_eq, forall_eq', not_true, not_false_iff, false_implies, Option.some.injEq, reduceCtorEq, exists_eq_left', implies_true, nl_1, nr_1, ix_nI, vpT, r_b_q, u_b_q, r_b_tk, u_b_tk, r_b_lt, u_b_lt, r_b_tm, u_b_tm, r_b_tt, u_b_tt, r_b_at, u_b_at, r_b_qt, u_b_qt, r_b_rt, u_b_rt, r_b_id, u_b_id, r_b_ov, u_b_ov, r_set0, u_set0, r_set1, u_set1, r_set2, u_set2, r_lent, u_lent, r_m1, u_m1, r_m2, u_m2, r_m3, u_m3, r_m4, u_m4, r_m5, u_m5, r_m6, u_m6, r_m7, u_m7, r_ml, u_ml, r_mr, u_mr, r_tc, u_tc, r_tn0, u_tn0, r_tn1, u_tn1, r_tn2, u_tn2, r_tl, u_tl, r_tr, u_tr, r_w0, u_w0, r_w1, u_w1, r_w2, u_w2, r_w3, u_w3, r_w4, u_w4, r_w5, u_w5, r_w6, u_w6, r_w7, u_w7, r_w8, u_w8, r_w9, u_w9, r_wa, u_wa, he]
  refine c_idx1 (k := 0) hp (by omega) ⟨fun _ => ?_, fun c => absurd c z10⟩
  unfold w_X1_removeAt_b16
  intro X hX
  have key : ∀ d i, i + d = loN ρ m - 1 → X (nI (i + 1)) (stB J b (shf ρ (21 + 11 * m + 1) 0 i)) := by
    intro d
    induction d with
    | zero =>
      intro i hi
      refine hX _ _ ?_
      have hle : loN ρ m ≤ i + 1 := by omega
      have hz : shf ρ (21 + 11 * m + 1) 0 i (21 + 11 * m + 0) = nI (loN ρ m) := by
        rw [shf_out _ (fun j h1 h2 => by omega)]
        exact he
      have hi3 : i = loN ρ m - 1 := by omega
      unfold remR at h
      rw [← hi3] at h
      unfold w_X1_removeAt_b16_body w_X1_removeAt_b50
      simp (disch := omega) only [← Nat.add_assoc, true_and, and_true, true_implies, forall_eq, forall_eq', not_true, not_false_iff, false_implies, Option.some.injEq, reduceCtorEq, exists_eq_left', implies_true, nl_1, nr_1, ix_nI, vpT, r_b_q, u_b_q, r_b_tk, u_b_tk, r_b_lt, u_b_lt, r_b_tm, u_b_tm, r_b_tt, u_b_tt, r_b_at, u_b_at, r_b_qt, u_b_qt, r_b_rt, u_b_rt, r_b_id, u_b_id, r_b_ov, u_b_ov, r_set0, u_set0, r_set1, u_set1, r_set2, u_set2, r_lent, u_lent, r_m1, u_m1, r_m2, u_m2, r_m3, u_m3, r_m4, u_m4, r_m5, u_m5, r_m6, u_m6, r_m7, u_m7, r_ml, u_ml, r_mr, u_mr, r_tc, u_tc, r_tn0, u_tn0, r_tn1, u_tn1, r_tn2, u_tn2, r_tl, u_tl, r_tr, u_tr, r_w0, u_w0, r_w1, u_w1, r_w2, u_w2, r_w3, u_w3, r_w4, u_w4, r_w5, u_w5, r_w6, u_w6, r_w7, u_w7, r_w8, u_w8, r_w9, u_w9, r_wa, u_wa, hz, nI_leI', hle]
      rw [hz] at h
      exact ⟨hL, hL, h⟩
    | succ d ih =>
      intro i hi
      refine hX _ _ ?_
      have hle : ¬ loN ρ m ≤ i + 1 := by omega
      have hle6 : ¬ 6 ≤ i + 1 := by omega
      have hz : shf ρ (21 + 11 * m + 1) 0 i (21 + 11 * m + 0) = nI (loN ρ m) := by
        rw [shf_out _ (fun j h1 h2 => by omega)]
        exact he
      have ih1 := ih (i + 1) (by omega)
      unfold shf at ih1
      unfold w_X1_removeAt_b16_body
      simp (disch := omega) only [← Nat.add_assoc, true_and, and_true, true_implies, forall_eq, forall_eq', not_true, not_false_iff, false_implies, Option.some.injEq, reduceCtorEq, exists_eq_left', implies_true, nl_1, nr_1, ix_nI, vpT, r_b_q, u_b_q, r_b_tk, u_b_tk, r_b_lt, u_b_lt, r_b_tm, u_b_tm, r_b_tt, u_b_tt, r_b_at, u_b_at, r_b_qt, u_b_qt, r_b_rt, u_b_rt, r_b_id, u_b_id, r_b_ov, u_b_ov, r_set0, u_set0, r_set1, u_set1, r_set2, u_set2, r_lent, u_lent, r_m1, u_m1, r_m2, u_m2, r_m3, u_m3, r_m4, u_m4, r_m5, u_m5, r_m6, u_m6, r_m7, u_m7, r_ml, u_ml, r_mr, u_mr, r_tc, u_tc, r_tn0, u_tn0, r_tn1, u_tn1, r_tn2, u_tn2, r_tl, u_tl, r_tr, u_tr, r_w0, u_w0, r_w1, u_w1, r_w2, u_w2, r_w3, u_w3, r_w4, u_w4, r_w5, u_w5, r_w6, u_w6, r_w7, u_w7, r_w8, u_w8, r_w9, u_w9, r_wa, u_wa, hz, nI_leI', hle, ll_6, hle6, nI_s1, Nat.zero_add] at ih1 ⊢
      exact ⟨hL, ih1⟩
  exact key (loN ρ m - 1) 0 (by omega)
def clsA (ρ : Sr) (q k m : Nat) : Sr := su (su (su (su (su (su (su (su (su ρ (13 + k) (-5)) (161 + 11 * q + 5) (-5)) (161 + 11 * q + 4) 3) (161 + 11 * q + 8) (ρ 0 - ρ (161 + 11 * q + 7))) (2361 + m) (ρ (2361 + m) - 1)) (2365 + m) (ρ (2365 + m) + 1)) (2369 + m) (mx (ρ (2369 + m)) (ρ 0 - ρ (161 + 11 * q + 7)))) 8 (ρ 8 + 1)) 5 1
theorem c_ansTail {Q : Int32 → MI → Prop} {x1 y : Int32} {t p q k m A : Nat} (hB : IsBus K R b) (ht : t < 4) (hp : p < inN ρ t) (hn : inN ρ t ≤ 4) (he : ρ (65 + 24 * t + 19) = nI (inN ρ t)) (hq : q < 200) (hk : k < 8) (hm : m < 4) (ek : ρ (161 + 11 * q + 5) = nI k) (em : ρ (161 + 11 * q + 0) = nI m) (h : Q y (stB J b (clsA (remL ρ t p) q k m))) : w_X0_sendAnswerOf_b79 K R b x1 Q (some (b + 18 + 5 * t)) (nI p) y (some (b + 38 + q)) (stB J b ρ) := by
  unfold w_X0_sendAnswerOf_b79
  simp (disch := omega) only [← Nat.add_assoc, true_and, and_true, true_implies, forall_eq, forall_eq', not_true, not_false_iff, false_implies, Option.some.injEq, reduceCtorEq, exists_eq_left', implies_true, nl_1, nr_1, ix_nI, vpT, r_b_q, u_b_q, r_b_tk, u_b_tk, r_b_lt, u_b_lt, r_b_tm, u_b_tm, r_b_tt, u_b_tt, r_b_at, u_b_at, r_b_qt, u_b_qt, r_b_rt, u_b_rt, r_b_id, u_b_id, r_b_ov, u_b_ov, r_set0, u_set0, r_set1, u_set1, r_set2, u_set2, r_lent, u_lent, r_m1, u_m1, r_m2, u_m2, r_m3, u_m3, r_m4, u_m4, r_m5, u_m5, r_m6, u_m6, r_m7, u_m7, r_ml, u_ml, r_mr, u_mr, r_tc, u_tc, r_tn0, u_tn0, r_tn1, u_tn1, r_tn2, u_tn2, r_tl, u_tl, r_tr, u_tr, r_w0, u_w0, r_w1, u_w1, r_w2, u_w2, r_w3, u_w3, r_w4, u_w4, r_w5, u_w5, r_w6, u_w6, r_w7, u_w7, r_w8, u_w8, r_w9, u_w9, r_wa, u_wa]
  refine ⟨hB.p3 ht, c_removeL hB ht hp hn he ?_⟩
  have ek' : remL ρ t p (161 + 11 * q + 5) = nI k := by rw [remL_n hp hn (by omega)]; exact ek
  have em' : remL ρ t p (161 + 11 * q + 0) = nI m := by rw [remL_n hp hn (by omega)]; exact em
  generalize remL ρ t p = τ at *
  unfold w_X0_takeTagBack w_X0_takeTagBack_b23
  simp (disch := omega) only [← Nat.add_assoc, true_and, and_true, true_implies, forall_eq, forall_eq', not_true, not_false_iff, false_implies, Option.some.injEq, reduceCtorEq, exists_eq_left', implies_true, nl_1, nr_1, ix_nI, vpT, r_b_q, u_b_q, r_b_tk, u_b_tk, r_b_lt, u_b_lt, r_b_tm, u_b_tm, r_b_tt, u_b_tt, r_b_at, u_b_at, r_b_qt, u_b_qt, r_b_rt, u_b_rt, r_b_id, u_b_id, r_b_ov, u_b_ov, r_set0, u_set0, r_set1, u_set1, r_set2, u_set2, r_lent, u_lent, r_m1, u_m1, r_m2, u_m2, r_m3, u_m3, r_m4, u_m4, r_m5, u_m5, r_m6, u_m6, r_m7, u_m7, r_ml, u_ml, r_mr, u_mr, r_tc, u_tc, r_tn0, u_tn0, r_tn1, u_tn1, r_tn2, u_tn2, r_tl, u_tl, r_tr, u_tr, r_w0, u_w0, r_w1, u_w1, r_w2, u_w2, r_w3, u_w3, r_w4, u_w4, r_w5, u_w5, r_w6, u_w6, r_w7, u_w7, r_w8, u_w8, r_w9, u_w9, r_wa, u_wa, ek']
  refine ⟨hB, hB.p4 hq, c_idx1 (n := 8) hk (by decide) ⟨fun c => absurd c z10, fun _ => ?_⟩⟩
  simp (disch := omega) only [← Nat.add_assoc, true_and, and_true, true_implies, forall_eq, forall_eq', not_true, not_false_iff, false_implies, Option.some.injEq, reduceCtorEq, exists_eq_left', implies_true, nl_1, nr_1, ix_nI, vpT, r_b_q, u_b_q, r_b_tk, u_b_tk, r_b_lt, u_b_lt, r_b_tm, u_b_tm, r_b_tt, u_b_tt, r_b_at, u_b_at, r_b_qt, u_b_qt, r_b_rt, u_b_rt, r_b_id, u_b_id, r_b_ov, u_b_ov, r_set0, u_set0, r_set1, u_set1, r_set2, u_set2, r_lent, u_lent, r_m1, u_m1, r_m2, u_m2, r_m3, u_m3, r_m4, u_m4, r_m5, u_m5, r_m6, u_m6, r_m7, u_m7, r_ml, u_ml, r_mr, u_mr, r_tc, u_tc, r_tn0, u_tn0, r_tn1, u_tn1, r_tn2, u_tn2, r_tl, u_tl, r_tr, u_tr, r_w0, u_w0, r_w1, u_w1, r_w2, u_w2, r_w3, u_w3, r_w4, u_w4, r_w5, u_w5, r_w6, u_w6, r_w7, u_w7, r_w8, u_w8, r_w9, u_w9, r_wa, u_wa, ek', em', su_n, su_s]
  refine ⟨hB, hB.p4 hq, hB.p4 hq, c_masterAt hB hm ?_⟩
  unfold w_X0_noteAnswer
  simp (disch := omega) only [← Nat.add_assoc, true_and, and_true, true_implies, forall_eq, forall_eq', not_true, not_false_iff, false_implies, Option.some.injEq, reduceCtorEq, exists_eq_left', implies_true, nl_1, nr_1, ix_nI, vpT, r_b_q, u_b_q, r_b_tk, u_b_tk, r_b_lt, u_b_lt, r_b_tm, u_b_tm, r_b_tt, u_b_tt, r_b_at, u_b_at, r_b_qt, u_b_qt, r_b_rt, u_b_rt, r_b_id, u_b_id, r_b_ov, u_b_ov, r_set0, u_set0, r_set1, u_set1, r_set2, u_set2, r_lent, u_lent, r_m1, u_m1, r_m2, u_m2, r_m3, u_m3, r_m4, u_m4, r_m5, u_m5, r_m6, u_m6, r_m7, u_m7, r_ml, u_ml, r_mr, u_mr, r_tc, u_tc, r_tn0, u_tn0, r_tn1, u_tn1, r_tn2, u_tn2, r_tl, u_tl, r_tr, u_tr, r_w0, u_w0, r_w1, u_w1, r_w2, u_w2, r_w3, u_w3, r_w4, u_w4, r_w5, u_w5, r_w6, u_w6, r_w7, u_w7, r_w8, u_w8, r_w9, u_w9, r_wa, u_wa, ek', em', su_n, su_s]
  refine ⟨hB.p2 hm, ?_⟩
  unfold clsA mx at h
  exact h
end CF
