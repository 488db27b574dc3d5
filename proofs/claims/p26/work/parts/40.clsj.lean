section CJ
variable {K : MK} {R : MR} {I J : MI} {b : Nat} {σ ρ : Sr}
theorem c_sendQuestion {Q : Int32 → MI → Prop} {m : Nat} (hB : IsBus K R b) (hR : RelB ρ σ) (hm : m < 4) (h1 : 1 ≤ loN σ m) (hf : (freeO σ).isSome = true) (h : ∀ ρ', RelB ρ' (if full σ (tgt0 σ m) then backS σ m else goneS σ m) → ρ' 5 = (if full σ (tgt0 σ m) then 2 else 0) → Q (nI (rwq σ m 0)) (stB J b ρ')) : w_X0_sendQuestionOf K R b (nI m) (stB J b ρ) Q := by
  have hS := hR.1
  obtain ⟨g1, g2⟩ := hR.2.2.1
  obtain ⟨hA4, hA⟩ := hS.A4
  obtain ⟨hn, en, hl⟩ := hS.rows hm
  obtain ⟨p1, p2, p3, p4, p5, p6, p7⟩ := hl 0 (by omega)
  rw [Nat.add_zero] at p3
  obtain ⟨ht, et⟩ := tgt0_ok hS hm h1
  obtain ⟨n1, rm, nn, en1, r1, r2, r3⟩ : ∃ n rm : Nat, n ≤ 4 ∧ σ (65 + 24 * tgt0 σ m + 19) = nI n ∧ 1 ≤ rm ∧ rm ≤ 4 ∧ σ (65 + 24 * tgt0 σ m + 16) = nI rm := by
    obtain ⟨T, A, a1, a2, a3, a4, a5, a6, a7, a8, a9, a10, a11⟩ := hS
    obtain ⟨n, rm, hn, e, r1, r2, r3, -⟩ := a10 _ ht
    exact ⟨n, rm, hn, e, r1, r2, r3⟩
  have e3 : ρ 4 = nI (ix (σ 4)) := by rw [g1 4 (by omega) (by omega) (by omega)]; exact hA4
  have e1 : ρ (21 + 11 * m + 0) = nI (loN σ m) := by rw [g1 _ (by omega) (by omega) (by omega)]; exact en
  have e2 : ρ (21 + 11 * m + 1) = nI (rwq σ m 0) := by rw [g1 _ (by omega) (by omega) (by omega)]; exact p3
  have e4 : ρ (161 + 11 * rwq σ m 0 + 1) = nI (tgt0 σ m) := by rw [g1.d p2 (by omega)]; exact et
  have e5 : ρ (65 + 24 * tgt0 σ m + 19) = σ (65 + 24 * tgt0 σ m + 19) := g1 _ (by omega) (by omega) (by omega)
  have e6 : ρ (65 + 24 * tgt0 σ m + 16) = σ (65 + 24 * tgt0 σ m + 16) := g1 _ (by omega) (by omega) (by omega)
  unfold w_X0_sendQuestionOf w_X0_sendQuestionOf_b23
  refine ⟨hB, c_masterAt hB hm ?_⟩
  simp only [← Nat.add_assoc, true_and, and_true, true_implies, forall_eq, forall_eq', not_true, not_false_iff, false_implies, Option.some.injEq, reduceCtorEq, exists_eq_left', implies_true, nl_1, nr_1, ix_nI, vpT, r_b_q, u_b_q, r_b_tk, u_b_tk, r_b_lt, u_b_lt, r_b_tm, u_b_tm, r_b_tt, u_b_tt, r_b_at, u_b_at, r_b_qt, u_b_qt, r_b_rt, u_b_rt, r_b_id, u_b_id, r_b_ov, u_b_ov, r_set0, u_set0, r_set1, u_set1, r_set2, u_set2, r_lent, u_lent, r_m1, u_m1, r_m2, u_m2, r_m3, u_m3, r_m4, u_m4, r_m5, u_m5, r_m6, u_m6, r_m7, u_m7, r_ml, u_ml, r_mr, u_mr, r_tc, u_tc, r_tn0, u_tn0, r_tn1, u_tn1, r_tn2, u_tn2, r_tl, u_tl, r_tr, u_tr, r_w0, u_w0, r_w1, u_w1, r_w2, u_w2, r_w3, u_w3, r_w4, u_w4, r_w5, u_w5, r_w6, u_w6, r_w7, u_w7, r_w8, u_w8, r_w9, u_w9, r_wa, u_wa]
  refine ⟨hB.p2 hm, c_at (j := 0) (n := loN σ m) (hB.p2 (i := m) hm).o0 (by simp (disch := omega) only [← Nat.add_assoc, true_and, and_true, true_implies, forall_eq, forall_eq', not_true, not_false_iff, false_implies, Option.some.injEq, reduceCtorEq, exists_eq_left', implies_true, nl_1, nr_1, ix_nI, vpT, r_b_q, u_b_q, r_b_tk, u_b_tk, r_b_lt, u_b_lt, r_b_tm, u_b_tm, r_b_tt, u_b_tt, r_b_at, u_b_at, r_b_qt, u_b_qt, r_b_rt, u_b_rt, r_b_id, u_b_id, r_b_ov, u_b_ov, r_set0, u_set0, r_set1, u_set1, r_set2, u_set2, r_lent, u_lent, r_m1, u_m1, r_m2, u_m2, r_m3, u_m3, r_m4, u_m4, r_m5, u_m5, r_m6, u_m6, r_m7, u_m7, r_ml, u_ml, r_mr, u_mr, r_tc, u_tc, r_tn0, u_tn0, r_tn1, u_tn1, r_tn2, u_tn2, r_tl, u_tl, r_tr, u_tr, r_w0, u_w0, r_w1, u_w1, r_w2, u_w2, r_w3, u_w3, r_w4, u_w4, r_w5, u_w5, r_w6, u_w6, r_w7, u_w7, r_w8, u_w8, r_w9, u_w9, r_wa, u_wa, e1]) (by omega) (by omega) ?_⟩
  have e2' : stB J b ρ (b + 6 + 3 * m + 1 + 1) 0 = nI (rwq σ m 0) := by
    rw [r_mr hm (by omega), Nat.add_zero]; exact e2
  rw [e2']
  refine ⟨hB, c_questionAt hB (A := ix (σ 4)) (by simp (disch := omega) only [← Nat.add_assoc, true_and, and_true, true_implies, forall_eq, forall_eq', not_true, not_false_iff, false_implies, Option.some.injEq, reduceCtorEq, exists_eq_left', implies_true, nl_1, nr_1, ix_nI, vpT, r_b_q, u_b_q, r_b_tk, u_b_tk, r_b_lt, u_b_lt, r_b_tm, u_b_tm, r_b_tt, u_b_tt, r_b_at, u_b_at, r_b_qt, u_b_qt, r_b_rt, u_b_rt, r_b_id, u_b_id, r_b_ov, u_b_ov, r_set0, u_set0, r_set1, u_set1, r_set2, u_set2, r_lent, u_lent, r_m1, u_m1, r_m2, u_m2, r_m3, u_m3, r_m4, u_m4, r_m5, u_m5, r_m6, u_m6, r_m7, u_m7, r_ml, u_ml, r_mr, u_mr, r_tc, u_tc, r_tn0, u_tn0, r_tn1, u_tn1, r_tn2, u_tn2, r_tl, u_tl, r_tr, u_tr, r_w0, u_w0, r_w1, u_w1, r_w2, u_w2, r_w3, u_w3, r_w4, u_w4, r_w5, u_w5, r_w6, u_w6, r_w7, u_w7, r_w8, u_w8, r_w9, u_w9, r_wa, u_wa, e3]) hA p2 ?_⟩
  unfold w_X0_sendQuestionOf_b49 w_X0_sendQuestionOf_b94
  simp (disch := omega) only [← Nat.add_assoc, true_and, and_true, true_implies, forall_eq, forall_eq', not_true, not_false_iff, false_implies, Option.some.injEq, reduceCtorEq, exists_eq_left', implies_true, nl_1, nr_1, ix_nI, vpT, r_b_q, u_b_q, r_b_tk, u_b_tk, r_b_lt, u_b_lt, r_b_tm, u_b_tm, r_b_tt, u_b_tt, r_b_at, u_b_at, r_b_qt, u_b_qt, r_b_rt, u_b_rt, r_b_id, u_b_id, r_b_ov, u_b_ov, r_set0, u_set0, r_set1, u_set1, r_set2, u_set2, r_lent, u_lent, r_m1, u_m1, r_m2, u_m2, r_m3, u_m3, r_m4, u_m4, r_m5, u_m5, r_m6, u_m6, r_m7, u_m7, r_ml, u_ml, r_mr, u_mr, r_tc, u_tc, r_tn0, u_tn0, r_tn1, u_tn1, r_tn2, u_tn2, r_tl, u_tl, r_tr, u_tr, r_w0, u_w0, r_w1, u_w1, r_w2, u_w2, r_w3, u_w3, r_w4, u_w4, r_w5, u_w5, r_w6, u_w6, r_w7, u_w7, r_w8, u_w8, r_w9, u_w9, r_wa, u_wa, e4]
  refine ⟨hB.p4 (by omega), c_targetAt hB ht ?_⟩
  unfold w_X5_isFull w_X5_isFull_b21
  simp (disch := omega) only [← Nat.add_assoc, true_and, and_true, true_implies, forall_eq, forall_eq', not_true, not_false_iff, false_implies, Option.some.injEq, reduceCtorEq, exists_eq_left', implies_true, nl_1, nr_1, ix_nI, vpT, r_b_q, u_b_q, r_b_tk, u_b_tk, r_b_lt, u_b_lt, r_b_tm, u_b_tm, r_b_tt, u_b_tt, r_b_at, u_b_at, r_b_qt, u_b_qt, r_b_rt, u_b_rt, r_b_id, u_b_id, r_b_ov, u_b_ov, r_set0, u_set0, r_set1, u_set1, r_set2, u_set2, r_lent, u_lent, r_m1, u_m1, r_m2, u_m2, r_m3, u_m3, r_m4, u_m4, r_m5, u_m5, r_m6, u_m6, r_m7, u_m7, r_ml, u_ml, r_mr, u_mr, r_tc, u_tc, r_tn0, u_tn0, r_tn1, u_tn1, r_tn2, u_tn2, r_tl, u_tl, r_tr, u_tr, r_w0, u_w0, r_w1, u_w1, r_w2, u_w2, r_w3, u_w3, r_w4, u_w4, r_w5, u_w5, r_w6, u_w6, r_w7, u_w7, r_w8, u_w8, r_w9, u_w9, r_wa, u_wa, su_n, e5, e6]
  rw [nI_t4 (a := m) (k := 1) (by omega)]
  refine ⟨hB, hB.p3 ht, hB.p3 ht, fun c => ⟨bz0, ?_⟩, fun c => ⟨bz1, fun e => absurd e z10, fun _ => ?_⟩⟩
  · have c' : ¬ full σ (tgt0 σ m) := fun z => z c
    have hin := full_not hS ht c'
    rw [if_neg c', if_neg c'] at h
    cases hfo : freeO σ with
    | none => rw [hfo] at hf; cases hf
    | some g =>
      obtain ⟨f1, f2⟩ := freeO_lt hfo
      obtain ⟨hT, -, hT8⟩ := hS.T1
      have hlr : loN (su ρ 7 (nI (t4 m 1))) m = loN σ m := ix_eq (by rw [su_n (by omega)]; exact e1) (by omega)
      have hir : inN (su ρ 7 (nI (t4 m 1))) (tgt0 σ m) = inN σ (tgt0 σ m) := by unfold inN; rw [su_n (by omega), e5]
      have hsh := sndHead_inv hS m
      refine c_letIn (σ := sndHead σ m) (A := ix (σ 4)) (g := g) hB hsh ?_ (by rw [su_n (by omega)]; exact e3) hA p2 hm ht (by omega) (by rw [freeO_head]; exact hfo) (by omega) (by omega) (by rw [hlr, su_n (by omega)]; exact e1) (by omega) ?_ (h _ (gone_rel hR hm h1 hfo c') ?_)
      · rw [sndHead_n (by omega)]
        unfold sndHead
        exact (g1.both).sr (by omega)
      · rw [hir, su_n (by omega), e5]
        exact (hS.lists ht).2.1
      · unfold clsG2
        rw [su_s]
  · have c' : full σ (tgt0 σ m) := c
    rw [if_pos c', if_pos c'] at h
    exact c_refuse hB hm p1 (h _ (back_rel hR hm h1) (by unfold clsR; rw [su_s]))
theorem c_makeTrip {Q : Int32 → MI → Prop} (hB : IsBus K R b) (hR : RelB ρ σ) (h : ∀ ρ', RelB ρ' (tripS σ) → (tripK σ ≠ -5 → ρ' 5 = tripK σ) → Q (tripQ σ) (stB J b ρ')) : w_X0_makeTrip K R b (stB J b ρ) Q := by
  have hS := hR.1
  have hG := hR.2.2.1
  have hans : isAns σ = true → ∀ t, tgtO σ = some t → w_X0_makeTrip_b29 K R b Q (oI (tgtO σ)) (stB J b ρ) := by
    intro hi t ht
    obtain ⟨p, hp⟩ := tgtO_ans ht
    have ht4 := tgtO_lt ht
    unfold tripS tripK tripQ at h
    rw [if_pos hi, if_pos hi, if_pos hi, ht] at h
    simp only [hp] at h
    rw [ht]
    unfold w_X0_makeTrip_b29
    exact ⟨hB, c_sendAnswer hB hR ht4 hp (fun ρ' a c => h ρ' a (fun _ => c))⟩
  have hsnd : isAns σ = false → w_X0_makeTrip_b35 K R b Q (oI (mstO σ)) (stB J b ρ) := by
    intro hi
    have hi' : ¬ isAns σ = true := by rw [hi]; decide
    unfold tripS tripK tripQ at h
    rw [if_neg hi', if_neg hi', if_neg hi'] at h
    unfold w_X0_makeTrip_b35 w_X0_makeTrip_b51
    cases hm : mstO σ with
    | none =>
      rw [hm] at h
      exact ⟨fun c => absurd rfl c, fun _ => h ρ hR (fun c => absurd rfl c)⟩
    | some m =>
      have hm4 := mstO_lt hm
      obtain ⟨g1, g2⟩ := canB_ok (mstO_can hm)
      rw [hm] at h
      exact ⟨fun _ => ⟨hB, c_sendQuestion hB hR hm4 g1 g2 (fun ρ' a c => h ρ' a (fun _ => c))⟩, fun c => absurd c (nI_ne5 (by omega))⟩
  unfold w_X0_makeTrip
  refine ⟨hB, c_target hB hS hG (c_master hB hS hG (fun m hm => (hR.2.2.2.2 m hm).1) ⟨fun c => hsnd ?_, fun c => ⟨fun c2 => ?_, fun c2 => c_prefers hB hG hR.2.1 hR.2.2.2.1 ⟨fun c3 => hsnd ?_, fun c3 => ?_⟩⟩⟩)⟩
  · have : tgtO σ = none := by
      cases ht : tgtO σ with
      | none => rfl
      | some t => have := tgtO_lt ht; exact absurd c (oI_ne ht (by omega))
    simp [isAns, this]
  · cases ht : tgtO σ with
    | none => exact absurd (oI_none ht) c
    | some t =>
      have : mstO σ = none := by
        cases hm : mstO σ with
        | none => rfl
        | some m => have := mstO_lt hm; exact absurd c2 (oI_ne hm (by omega))
      have := hans (by simp [isAns, ht, this]) t ht
      rw [ht] at this
      exact this
  · have hz := t1_cases c3
    have : (mstO σ).isNone = false := by
      cases hm : mstO σ with
      | none => exact absurd (oI_none hm) c2
      | some m => rfl
    simp [isAns, hz, this]
  · have hz := t0_cases c3
    cases ht : tgtO σ with
    | none => exact absurd (oI_none ht) c
    | some t =>
      have := hans (by simp [isAns, ht, hz]) t ht
      rw [ht] at this
      exact this
theorem c_waits {Q : MI → Prop} {x : Int32} {k : Int32} {g : Option Nat} (hB : IsBus K R b) (hS : InvS σ) (hG : Ag ρ σ (ix (σ 4))) (hx : ∀ m, m < 4 → (nI m = x ↔ (k = 0 ∧ nI m = oI g))) (h : ∀ ρ', (∀ s, (∀ j, j < 4 → s ≠ 21 + 11 * j + 10) → ρ' s = ρ s) → Ag ρ' (waitS σ k g 4) (ix (σ 4)) → Q (stB J b ρ')) : w_X0_countWaits K R b x (stB J b ρ) Q := by
  unfold w_X0_countWaits w_X0_countWaits_b2
  intro X hX
  have key : ∀ d m, m + d = 4 → ∀ ρ', (∀ s, (∀ j, j < 4 → s ≠ 21 + 11 * j + 10) → ρ' s = ρ s) → Ag ρ' (waitS σ k g m) (ix (σ 4)) → X (nI m) (stB J b ρ') := by
    intro d
    induction d with
    | zero =>
      intro m hm ρ' hρ hg
      refine hX _ _ ?_
      have hm4 : m = 4 := by omega
      subst hm4
      unfold w_X0_countWaits_b2_body
      simp (disch := omega) only [← Nat.add_assoc, true_and, and_true, true_implies, forall_eq, forall_eq', not_true, not_false_iff, false_implies, Option.some.injEq, reduceCtorEq, exists_eq_left', implies_true, nl_1, nr_1, ix_nI, vpT, r_b_q, u_b_q, r_b_tk, u_b_tk, r_b_lt, u_b_lt, r_b_tm, u_b_tm, r_b_tt, u_b_tt, r_b_at, u_b_at, r_b_qt, u_b_qt, r_b_rt, u_b_rt, r_b_id, u_b_id, r_b_ov, u_b_ov, r_set0, u_set0, r_set1, u_set1, r_set2, u_set2, r_lent, u_lent, r_m1, u_m1, r_m2, u_m2, r_m3, u_m3, r_m4, u_m4, r_m5, u_m5, r_m6, u_m6, r_m7, u_m7, r_ml, u_ml, r_mr, u_mr, r_tc, u_tc, r_tn0, u_tn0, r_tn1, u_tn1, r_tn2, u_tn2, r_tl, u_tl, r_tr, u_tr, r_w0, u_w0, r_w1, u_w1, r_w2, u_w2, r_w3, u_w3, r_w4, u_w4, r_w5, u_w5, r_w6, u_w6, r_w7, u_w7, r_w8, u_w8, r_w9, u_w9, r_wa, u_wa, ll_4, Nat.le_refl]
      exact h ρ' hρ hg
    | succ d ih =>
      intro m hm ρ' hρ hg
      refine hX _ _ ?_
      have hm4 : ¬ 4 ≤ m := by omega
      have ih1 := ih (m + 1) (by omega)
      unfold waitS at ih1
      have hL := (hS.rows (m := m) (by omega)).2.1
      have hL6 := (hS.rows (m := m) (by omega)).1
      have hL2 : ρ' (21 + 11 * m + 0) = nI (loN σ m) := by rw [hg _ (by omega) (by omega) (by omega), waitS_n m (fun j hj => by omega)]; exact hL
      have hW : ρ' (21 + 11 * m + 10) = waitS σ k g m (21 + 11 * m + 10) := hg _ (by omega) (by omega) (by omega)
      have fr : ∀ x : Int32, ∀ s, (∀ j, j < 4 → s ≠ 21 + 11 * j + 10) → su ρ' (21 + 11 * m + 10) x s = ρ s := fun x s hs => by rw [su_n (hs m (by omega))]; exact hρ s hs
      unfold w_X0_countWaits_b2_body w_X0_countWaits_b29 w_X0_countWaits_b47
      simp (disch := omega) only [← Nat.add_assoc, true_and, and_true, true_implies, forall_eq, forall_eq', not_true, not_false_iff, false_implies, Option.some.injEq, reduceCtorEq, exists_eq_left', implies_true, nl_1, nr_1, ix_nI, vpT, r_b_q, u_b_q, r_b_tk, u_b_tk, r_b_lt, u_b_lt, r_b_tm, u_b_tm, r_b_tt, u_b_tt, r_b_at, u_b_at, r_b_qt, u_b_qt, r_b_rt, u_b_rt, r_b_id, u_b_id, r_b_ov, u_b_ov, r_set0, u_set0, r_set1, u_set1, r_set2, u_set2, r_lent, u_lent, r_m1, u_m1, r_m2, u_m2, r_m3, u_m3, r_m4, u_m4, r_m5, u_m5, r_m6, u_m6, r_m7, u_m7, r_ml, u_ml, r_mr, u_mr, r_tc, u_tc, r_tn0, u_tn0, r_tn1, u_tn1, r_tn2, u_tn2, r_tl, u_tl, r_tr, u_tr, r_w0, u_w0, r_w1, u_w1, r_w2, u_w2, r_w3, u_w3, r_w4, u_w4, r_w5, u_w5, r_w6, u_w6, r_w7, u_w7, r_w8, u_w8, r_w9, u_w9, r_wa, u_wa, ll_4, hm4, hL2, el_0, hW]
      refine ⟨hB, fun c => ⟨hB.p2 (by omega), ?_⟩, fun c => ⟨fun c2 => ?_, fun c2 => ⟨hB.p2 (by omega), ?_⟩⟩⟩
      · rw [if_pos (Or.inr ((hx m (by omega)).mp c))] at ih1
        exact ih1 _ (fr _) hg.both
      · rw [if_neg (fun z => z.elim c2 (fun z => c ((hx m (by omega)).mpr z)))] at ih1
        exact ih1 _ (fr _) hg.both
      · rw [if_pos (Or.inl c2)] at ih1
        exact ih1 _ (fr _) hg.both
  exact key 4 0 rfl ρ (fun _ _ => rfl) hG
end CJ
