def clsG (ρ : Sr) (m q t g : Nat) : Sr := su (su (su (su (su (su ρ (21 + 11 * m + 8) 0) (2361 + m) (ρ (2361 + m) + 1)) (13 + g) (nI q)) (161 + 11 * q + 5) (nI g)) (161 + 11 * q + 4) 1) (161 + 11 * q + 10) (ρ 0 + ρ (65 + 24 * t + 17) + (ρ (161 + 11 * q + 2) - ρ (161 + 11 * q + 2) / 4 * 4))
def clsG2 (ρ : Sr) (t q : Nat) : Sr := su (su (appL ρ t q) 9 (ρ 9 + 1)) 5 0
def clsR (ρ : Sr) (m q : Nat) : Sr := su (su (su (su (su ρ (161 + 11 * q + 9) (ρ (161 + 11 * q + 9) + 1)) (21 + 11 * m + 8) (ρ (21 + 11 * m + 8) + 1)) (21 + 11 * m + 9) (ρ 0 + 1 + (if ρ (21 + 11 * m + 8) + 1 < 4 then (1 : Int32) <<< ((ρ (21 + 11 * m + 8) + 1) &&& 31) else (16 : Int32)))) 10 (ρ 10 + 1)) 5 2
section CH
variable {K : MK} {R : MR} {I J : MI} {b : Nat} {σ ρ : Sr}
theorem InvS.qok (h : InvS σ) {q : Nat} (hq : q < ix (σ 4)) : QOK σ q := by
  obtain ⟨T, A, a1, a2, a3, a4, a5, a6, a7, a8, a9, a10, a11⟩ := h
  exact a11 q (by rw [ix_eq a4 (by omega)] at hq; exact hq)
theorem i32_add0 (x : Int32) : x + 0 = x := by
  apply Int32.toBitVec_inj.mp
  simp
theorem c_sendAnswer {Q : Int32 → MI → Prop} {t p : Nat} (hB : IsBus K R b) (hR : RelB ρ σ) (ht : t < 4) (hp : ansO σ t = some p) (h : ∀ ρ', RelB ρ' (answersS σ t p) → ρ' 5 = 1 → Q (nI (lsq σ t p)) (stB J b ρ')) : w_X0_sendAnswerOf K R b (nI t) (stB J b ρ) Q := by
  have hS := hR.1
  obtain ⟨g1, g2⟩ := hR.2.2.1
  obtain ⟨hA4, hA⟩ := hS.A4
  obtain ⟨hn, en, hl⟩ := hS.lists ht
  have hpl := ansO_lt hp
  obtain ⟨q1, q2, q3, -, k, k1, k2, k3⟩ := hl p hpl
  have qA := (hS.lists2 ht hpl).1
  obtain ⟨⟨m, hm, em⟩, -, -⟩ := hS.qok qA
  have key := h _ (ans_rel hR ht hpl k1 k2 k3 hm em) (by unfold clsA; rw [su_s])
  have hinr : inN ρ t = inN σ t := by unfold inN; rw [g1 _ (by omega) (by omega) (by omega)]
  have hinr2 : inN (ansH ρ t p) t = inN σ t := by rw [← hinr]; unfold inN; rw [ansH_n (by omega)]
  have e1 : ρ (65 + 24 * t + 19) = nI (inN σ t) := by rw [g1 _ (by omega) (by omega) (by omega)]; exact en
  have e2 : ρ (65 + 24 * t + 20 + p) = nI (lsq σ t p) := by rw [g1 _ (by omega) (by omega) (by omega)]; exact q2
  have e3 : ρ 4 = nI (ix (σ 4)) := by rw [g1 4 (by omega) (by omega) (by omega)]; exact hA4
  have tail := c_ansTail (Q := Q) (J := J) (x1 := nI t) (y := nI (lsq σ t p)) (t := t) (p := p) (q := lsq σ t p) (k := k) (m := m) (A := 0) (ρ := ansH ρ t p) hB ht (by omega) (by omega) (by rw [ansH_n (by omega), hinr2]; exact e1) q1 k1 hm (by rw [ansH_n (by omega), g1.d qA (by omega)]; exact k2) (by rw [ansH_n (by omega), g1.d qA (by omega)]; exact em) key
  unfold w_X0_sendAnswerOf w_X0_sendAnswerOf_b20
  refine ⟨hB, c_targetAt hB ht ?_⟩
  simp only [← Nat.add_assoc, true_and, and_true, true_implies, forall_eq, forall_eq', not_true, not_false_iff, false_implies, Option.some.injEq, reduceCtorEq, exists_eq_left', implies_true, nl_1, nr_1, ix_nI, vpT, r_b_q, u_b_q, r_b_tk, u_b_tk, r_b_lt, u_b_lt, r_b_tm, u_b_tm, r_b_tt, u_b_tt, r_b_at, u_b_at, r_b_qt, u_b_qt, r_b_rt, u_b_rt, r_b_id, u_b_id, r_b_ov, u_b_ov, r_set0, u_set0, r_set1, u_set1, r_set2, u_set2, r_lent, u_lent, r_m1, u_m1, r_m2, u_m2, r_m3, u_m3, r_m4, u_m4, r_m5, u_m5, r_m6, u_m6, r_m7, u_m7, r_ml, u_ml, r_mr, u_mr, r_tc, u_tc, r_tn0, u_tn0, r_tn1, u_tn1, r_tn2, u_tn2, r_tl, u_tl, r_tr, u_tr, r_w0, u_w0, r_w1, u_w1, r_w2, u_w2, r_w3, u_w3, r_w4, u_w4, r_w5, u_w5, r_w6, u_w6, r_w7, u_w7, r_w8, u_w8, r_w9, u_w9, r_wa, u_wa]
  refine c_place hB hS hR.2.2.1 ht ?_
  rw [hp]
  refine ⟨hB.p3 ht, ?_⟩
  refine c_at (n := inN σ t) (hB.p3 (i := t) ht).o2 (by simp (disch := omega) only [← Nat.add_assoc, true_and, and_true, true_implies, forall_eq, forall_eq', not_true, not_false_iff, false_implies, Option.some.injEq, reduceCtorEq, exists_eq_left', implies_true, nl_1, nr_1, ix_nI, vpT, r_b_q, u_b_q, r_b_tk, u_b_tk, r_b_lt, u_b_lt, r_b_tm, u_b_tm, r_b_tt, u_b_tt, r_b_at, u_b_at, r_b_qt, u_b_qt, r_b_rt, u_b_rt, r_b_id, u_b_id, r_b_ov, u_b_ov, r_set0, u_set0, r_set1, u_set1, r_set2, u_set2, r_lent, u_lent, r_m1, u_m1, r_m2, u_m2, r_m3, u_m3, r_m4, u_m4, r_m5, u_m5, r_m6, u_m6, r_m7, u_m7, r_ml, u_ml, r_mr, u_mr, r_tc, u_tc, r_tn0, u_tn0, r_tn1, u_tn1, r_tn2, u_tn2, r_tl, u_tl, r_tr, u_tr, r_w0, u_w0, r_w1, u_w1, r_w2, u_w2, r_w3, u_w3, r_w4, u_w4, r_w5, u_w5, r_w6, u_w6, r_w7, u_w7, r_w8, u_w8, r_w9, u_w9, r_wa, u_wa, e1]) (by omega) (by omega) ?_
  unfold w_X0_sendAnswerOf_b38
  simp (disch := omega) only [← Nat.add_assoc, true_and, and_true, true_implies, forall_eq, forall_eq', not_true, not_false_iff, false_implies, Option.some.injEq, reduceCtorEq, exists_eq_left', implies_true, nl_1, nr_1, ix_nI, vpT, r_b_q, u_b_q, r_b_tk, u_b_tk, r_b_lt, u_b_lt, r_b_tm, u_b_tm, r_b_tt, u_b_tt, r_b_at, u_b_at, r_b_qt, u_b_qt, r_b_rt, u_b_rt, r_b_id, u_b_id, r_b_ov, u_b_ov, r_set0, u_set0, r_set1, u_set1, r_set2, u_set2, r_lent, u_lent, r_m1, u_m1, r_m2, u_m2, r_m3, u_m3, r_m4, u_m4, r_m5, u_m5, r_m6, u_m6, r_m7, u_m7, r_ml, u_ml, r_mr, u_mr, r_tc, u_tc, r_tn0, u_tn0, r_tn1, u_tn1, r_tn2, u_tn2, r_tl, u_tl, r_tr, u_tr, r_w0, u_w0, r_w1, u_w1, r_w2, u_w2, r_w3, u_w3, r_w4, u_w4, r_w5, u_w5, r_w6, u_w6, r_w7, u_w7, r_w8, u_w8, r_w9, u_w9, r_wa, u_wa, e2]
  refine ⟨hB, c_questionAt hB (A := ix (σ 4)) (by simp (disch := omega) only [← Nat.add_assoc, true_and, and_true, true_implies, forall_eq, forall_eq', not_true, not_false_iff, false_implies, Option.some.injEq, reduceCtorEq, exists_eq_left', implies_true, nl_1, nr_1, ix_nI, vpT, r_b_q, u_b_q, r_b_tk, u_b_tk, r_b_lt, u_b_lt, r_b_tm, u_b_tm, r_b_tt, u_b_tt, r_b_at, u_b_at, r_b_qt, u_b_qt, r_b_rt, u_b_rt, r_b_id, u_b_id, r_b_ov, u_b_ov, r_set0, u_set0, r_set1, u_set1, r_set2, u_set2, r_lent, u_lent, r_m1, u_m1, r_m2, u_m2, r_m3, u_m3, r_m4, u_m4, r_m5, u_m5, r_m6, u_m6, r_m7, u_m7, r_ml, u_ml, r_mr, u_mr, r_tc, u_tc, r_tn0, u_tn0, r_tn1, u_tn1, r_tn2, u_tn2, r_tl, u_tl, r_tr, u_tr, r_w0, u_w0, r_w1, u_w1, r_w2, u_w2, r_w3, u_w3, r_w4, u_w4, r_w5, u_w5, r_w6, u_w6, r_w7, u_w7, r_w8, u_w8, r_w9, u_w9, r_wa, u_wa, e3]) hA qA ?_⟩
  simp (disch := omega) only [← Nat.add_assoc, true_and, and_true, true_implies, forall_eq, forall_eq', not_true, not_false_iff, false_implies, Option.some.injEq, reduceCtorEq, exists_eq_left', implies_true, nl_1, nr_1, ix_nI, vpT, r_b_q, u_b_q, r_b_tk, u_b_tk, r_b_lt, u_b_lt, r_b_tm, u_b_tm, r_b_tt, u_b_tt, r_b_at, u_b_at, r_b_qt, u_b_qt, r_b_rt, u_b_rt, r_b_id, u_b_id, r_b_ov, u_b_ov, r_set0, u_set0, r_set1, u_set1, r_set2, u_set2, r_lent, u_lent, r_m1, u_m1, r_m2, u_m2, r_m3, u_m3, r_m4, u_m4, r_m5, u_m5, r_m6, u_m6, r_m7, u_m7, r_ml, u_ml, r_mr, u_mr, r_tc, u_tc, r_tn0, u_tn0, r_tn1, u_tn1, r_tn2, u_tn2, r_tl, u_tl, r_tr, u_tr, r_w0, u_w0, r_w1, u_w1, r_w2, u_w2, r_w3, u_w3, r_w4, u_w4, r_w5, u_w5, r_w6, u_w6, r_w7, u_w7, r_w8, u_w8, r_w9, u_w9, r_wa, u_wa, lr_0, oI]
  rw [nI_t4 (a := t) (k := 1) (by omega)]
  refine ⟨fun c => ?_, fun c => ?_⟩
  · unfold ansH at tail
    rw [if_neg (by omega), i32_add0] at tail
    have e12 := su_id (su ρ 6 (nI (t4 t 1))) 12
    rw [su_n (by omega)] at e12
    rw [e12] at tail
    exact tail
  · unfold ansH at tail
    rw [if_pos (by omega)] at tail
    rw [su_n (by omega)]
    exact tail
theorem c_appendL {Q : MI → Prop} {t q : Nat} (hB : IsBus K R b) (ht : t < 4) (hn : inN ρ t < 4) (he : ρ (65 + 24 * t + 19) = nI (inN ρ t)) (h : Q (stB J b (appL ρ t q))) : w_X1_append K R (b + 18 + 5 * t + 3) (nI q) (stB J b ρ) Q := by
  unfold w_X1_append w_X1_append_b32
  simp (disch := omega) only [← Nat.add_assoc, true_and, and_true, true_implies, forall_eq, forall_eq', not_true, not_false_iff, false_implies, Option.some.injEq, reduceCtorEq, exists_eq_left', implies_true, nl_1, nr_1, ix_nI, vpT, r_b_q, u_b_q, r_b_tk, u_b_tk, r_b_lt, u_b_lt, r_b_tm, u_b_tm, r_b_tt, u_b_tt, r_b_at, u_b_at, r_b_qt, u_b_qt, r_b_rt, u_b_rt, r_b_id, u_b_id, r_b_ov, u_b_ov, r_set0, u_set0, r_set1, u_set1, r_set2, u_set2, r_lent, u_lent, r_m1, u_m1, r_m2, u_m2, r_m3, u_m3, r_m4, u_m4, r_m5, u_m5, r_m6, u_m6, r_m7, u_m7, r_ml, u_ml, r_mr, u_mr, r_tc, u_tc, r_tn0, u_tn0, r_tn1, u_tn1, r_tn2, u_tn2, r_tl, u_tl, r_tr, u_tr, r_w0, u_w0, r_w1, u_w1, r_w2, u_w2, r_w3, u_w3, r_w4, u_w4, r_w5, u_w5, r_w6, u_w6, r_w7, u_w7, r_w8, u_w8, r_w9, u_w9, r_wa, u_wa, he]
  refine ⟨(hB.p3 (i := t) ht).o2, c_idx1 (n := 6) (by omega) (by decide) ⟨fun c => absurd c z10, fun _ => ?_⟩⟩
  simp (disch := omega) only [← Nat.add_assoc, true_and, and_true, true_implies, forall_eq, forall_eq', not_true, not_false_iff, false_implies, Option.some.injEq, reduceCtorEq, exists_eq_left', implies_true, nl_1, nr_1, ix_nI, vpT, r_b_q, u_b_q, r_b_tk, u_b_tk, r_b_lt, u_b_lt, r_b_tm, u_b_tm, r_b_tt, u_b_tt, r_b_at, u_b_at, r_b_qt, u_b_qt, r_b_rt, u_b_rt, r_b_id, u_b_id, r_b_ov, u_b_ov, r_set0, u_set0, r_set1, u_set1, r_set2, u_set2, r_lent, u_lent, r_m1, u_m1, r_m2, u_m2, r_m3, u_m3, r_m4, u_m4, r_m5, u_m5, r_m6, u_m6, r_m7, u_m7, r_ml, u_ml, r_mr, u_mr, r_tc, u_tc, r_tn0, u_tn0, r_tn1, u_tn1, r_tn2, u_tn2, r_tl, u_tl, r_tr, u_tr, r_w0, u_w0, r_w1, u_w1, r_w2, u_w2, r_w3, u_w3, r_w4, u_w4, r_w5, u_w5, r_w6, u_w6, r_w7, u_w7, r_w8, u_w8, r_w9, u_w9, r_wa, u_wa, he]
  exact h
theorem c_letIn {Q : MI → Prop} {m q t g A : Nat} (hB : IsBus K R b) (hS : InvS σ) (hG : Ag ρ σ (ix (σ 4))) (hA : ρ 4 = nI A) (hA2 : A ≤ 200) (hqA : q < A) (hm : m < 4) (ht : t < 4) (hg : g < 8) (hf : freeO σ = some g) (hl : 0 < loN ρ m) (hl6 : loN ρ m ≤ 6) (el : ρ (21 + 11 * m + 0) = nI (loN ρ m)) (hi : inN ρ t < 4) (ei : ρ (65 + 24 * t + 19) = nI (inN ρ t)) (h : Q (stB J b (clsG2 (clsG (remR ρ m) m q t g) t q))) : w_X0_letIn K R b (some (b + 6 + 3 * m)) (some (b + 18 + 5 * t)) (nI q) (stB J b ρ) Q := by
  unfold w_X0_letIn
  refine ⟨hB, c_questionAt hB (A := A) (by simp (disch := omega) only [← Nat.add_assoc, true_and, and_true, true_implies, forall_eq, forall_eq', not_true, not_false_iff, false_implies, Option.some.injEq, reduceCtorEq, exists_eq_left', implies_true, nl_1, nr_1, ix_nI, vpT, r_b_q, u_b_q, r_b_tk, u_b_tk, r_b_lt, u_b_lt, r_b_tm, u_b_tm, r_b_tt, u_b_tt, r_b_at, u_b_at, r_b_qt, u_b_qt, r_b_rt, u_b_rt, r_b_id, u_b_id, r_b_ov, u_b_ov, r_set0, u_set0, r_set1, u_set1, r_set2, u_set2, r_lent, u_lent, r_m1, u_m1, r_m2, u_m2, r_m3, u_m3, r_m4, u_m4, r_m5, u_m5, r_m6, u_m6, r_m7, u_m7, r_ml, u_ml, r_mr, u_mr, r_tc, u_tc, r_tn0, u_tn0, r_tn1, u_tn1, r_tn2, u_tn2, r_tl, u_tl, r_tr, u_tr, r_w0, u_w0, r_w1, u_w1, r_w2, u_w2, r_w3, u_w3, r_w4, u_w4, r_w5, u_w5, r_w6, u_w6, r_w7, u_w7, r_w8, u_w8, r_w9, u_w9, r_wa, u_wa, hA]) hA2 hqA (c_freeTag hB hS hG ?_)⟩
  rw [hf]
  simp (disch := omega) only [← Nat.add_assoc, true_and, and_true, true_implies, forall_eq, forall_eq', not_true, not_false_iff, false_implies, Option.some.injEq, reduceCtorEq, exists_eq_left', implies_true, nl_1, nr_1, ix_nI, vpT, r_b_q, u_b_q, r_b_tk, u_b_tk, r_b_lt, u_b_lt, r_b_tm, u_b_tm, r_b_tt, u_b_tt, r_b_at, u_b_at, r_b_qt, u_b_qt, r_b_rt, u_b_rt, r_b_id, u_b_id, r_b_ov, u_b_ov, r_set0, u_set0, r_set1, u_set1, r_set2, u_set2, r_lent, u_lent, r_m1, u_m1, r_m2, u_m2, r_m3, u_m3, r_m4, u_m4, r_m5, u_m5, r_m6, u_m6, r_m7, u_m7, r_ml, u_ml, r_mr, u_mr, r_tc, u_tc, r_tn0, u_tn0, r_tn1, u_tn1, r_tn2, u_tn2, r_tl, u_tl, r_tr, u_tr, r_w0, u_w0, r_w1, u_w1, r_w2, u_w2, r_w3, u_w3, r_w4, u_w4, r_w5, u_w5, r_w6, u_w6, r_w7, u_w7, r_w8, u_w8, r_w9, u_w9, r_wa, u_wa, oI]
  refine c_idx1 (n := 8) hg (by decide) ⟨fun _ => ?_, fun c => absurd c z10⟩
  refine ⟨hB.p2 hm, c_removeR hB hm hl hl6 el ?_⟩
  have ei' : remR ρ m (65 + 24 * t + 19) = nI (inN ρ t) := by rw [remR_n hl6 (by omega)]; exact ei
  generalize remR ρ m = τ at *
  simp (disch := omega) only [← Nat.add_assoc, true_and, and_true, true_implies, forall_eq, forall_eq', not_true, not_false_iff, false_implies, Option.some.injEq, reduceCtorEq, exists_eq_left', implies_true, nl_1, nr_1, ix_nI, vpT, r_b_q, u_b_q, r_b_tk, u_b_tk, r_b_lt, u_b_lt, r_b_tm, u_b_tm, r_b_tt, u_b_tt, r_b_at, u_b_at, r_b_qt, u_b_qt, r_b_rt, u_b_rt, r_b_id, u_b_id, r_b_ov, u_b_ov, r_set0, u_set0, r_set1, u_set1, r_set2, u_set2, r_lent, u_lent, r_m1, u_m1, r_m2, u_m2, r_m3, u_m3, r_m4, u_m4, r_m5, u_m5, r_m6, u_m6, r_m7, u_m7, r_ml, u_ml, r_mr, u_mr, r_tc, u_tc, r_tn0, u_tn0, r_tn1, u_tn1, r_tn2, u_tn2, r_tl, u_tl, r_tr, u_tr, r_w0, u_w0, r_w1, u_w1, r_w2, u_w2, r_w3, u_w3, r_w4, u_w4, r_w5, u_w5, r_w6, u_w6, r_w7, u_w7, r_w8, u_w8, r_w9, u_w9, r_wa, u_wa, su_n, su_s]
  refine ⟨hB.p4 (by omega), hB.p3 ht, ?_⟩
  have h' : inN (clsG τ m q t g) t = inN ρ t := ix_eq (by unfold clsG; rw [su_n (by omega), su_n (by omega), su_n (by omega), su_n (by omega), su_n (by omega), su_n (by omega)]; exact ei') (by omega)
  refine c_appendL hB ht (by rw [← h'] at hi; exact hi) ?_ ?_
  · show clsG τ m q t g _ = nI (inN (clsG τ m q t g) t)
    rw [h']
    unfold clsG
    rw [su_n (by omega), su_n (by omega), su_n (by omega), su_n (by omega), su_n (by omega), su_n (by omega)]
    exact ei'
  · show Q (upI (upI (stB J b (appL (clsG τ m q t g) t q)) b 11 (stB J b (appL (clsG τ m q t g) t q) b 11 + 1)) b 7 0)
    have e9 : appL (clsG τ m q t g) t q 9 = clsG τ m q t g 9 := appL_n (by omega) (by omega)
    rw [r_b_qt, u_b_qt, u_b_lt, e9]
    exact h
theorem c_refuse {Q : MI → Prop} {m q : Nat} (hB : IsBus K R b) (hm : m < 4) (hq : q < 200) (h : Q (stB J b (clsR ρ m q))) : w_X0_refuse K R b (some (b + 6 + 3 * m)) (some (b + 38 + q)) (stB J b ρ) Q := by
  unfold w_X0_refuse w_X0_refuse_b39
  simp (disch := omega) only [← Nat.add_assoc, true_and, and_true, true_implies, forall_eq, forall_eq', not_true, not_false_iff, false_implies, Option.some.injEq, reduceCtorEq, exists_eq_left', implies_true, nl_1, nr_1, ix_nI, vpT, r_b_q, u_b_q, r_b_tk, u_b_tk, r_b_lt, u_b_lt, r_b_tm, u_b_tm, r_b_tt, u_b_tt, r_b_at, u_b_at, r_b_qt, u_b_qt, r_b_rt, u_b_rt, r_b_id, u_b_id, r_b_ov, u_b_ov, r_set0, u_set0, r_set1, u_set1, r_set2, u_set2, r_lent, u_lent, r_m1, u_m1, r_m2, u_m2, r_m3, u_m3, r_m4, u_m4, r_m5, u_m5, r_m6, u_m6, r_m7, u_m7, r_ml, u_ml, r_mr, u_mr, r_tc, u_tc, r_tn0, u_tn0, r_tn1, u_tn1, r_tn2, u_tn2, r_tl, u_tl, r_tr, u_tr, r_w0, u_w0, r_w1, u_w1, r_w2, u_w2, r_w3, u_w3, r_w4, u_w4, r_w5, u_w5, r_w6, u_w6, r_w7, u_w7, r_w8, u_w8, r_w9, u_w9, r_wa, u_wa, su_n, su_s]
  unfold clsR at h
  refine ⟨hB.p4 hq, hB.p2 hm, fun c => ⟨hB, hB.p2 hm, ?_⟩, fun c => ⟨hB, hB.p2 hm, ?_⟩⟩
  · rw [if_pos c] at h
    exact h
  · rw [if_neg c] at h
    exact h
end CH
