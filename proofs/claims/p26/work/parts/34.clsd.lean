section CD
variable {K : MK} {R : MR} {I J : MI} {b : Nat} {σ ρ : Sr}
theorem InvS.TA (h : InvS σ) {A : Nat} (hA : A = ix (σ 4)) : A ≤ 200 := by rw [hA]; exact h.A4.2
theorem c_maySend {Q : Int32 → MI → Prop} {m : Nat} (hB : IsBus K R b) (hS : InvS σ) (hG : AgD ρ σ) (hm : m < 4) (hH : ρ (2361 + m) = nI (holdsN σ m)) (hf : (freeO σ).isSome = true) (h : Q (if canB σ m = true then 1 else 0) (stB J b ρ)) : w_X0_maySend K R b (some (b + 6 + 3 * m)) (stB J b ρ) Q := by
  obtain ⟨hL, eL, -⟩ := hS.rows hm
  have hG1 := hG.1
  have e1 : ρ (21 + 11 * m + 0) = nI (loN σ m) := by rw [hG1 _ (by omega) (by omega) (by omega)]; exact eL
  have e2 : ρ 0 = σ 0 := hG1 _ (by omega) (by omega) (by omega)
  have e3 : ρ (21 + 11 * m + 9) = σ (21 + 11 * m + 9) := hG1 _ (by omega) (by omega) (by omega)
  have e4 : ρ (21 + 11 * m + 7) = σ (21 + 11 * m + 7) := hG1 _ (by omega) (by omega) (by omega)
  unfold w_X0_maySend w_X0_maySend_b36 w_X0_maySend_b37
  simp (disch := omega) only [← Nat.add_assoc, true_and, and_true, true_implies, forall_eq, forall_eq', not_true, not_false_iff, false_implies, Option.some.injEq, reduceCtorEq, exists_eq_left', implies_true, nl_1, nr_1, ix_nI, vpT, r_b_q, u_b_q, r_b_tk, u_b_tk, r_b_lt, u_b_lt, r_b_tm, u_b_tm, r_b_tt, u_b_tt, r_b_at, u_b_at, r_b_qt, u_b_qt, r_b_rt, u_b_rt, r_b_id, u_b_id, r_b_ov, u_b_ov, r_set0, u_set0, r_set1, u_set1, r_set2, u_set2, r_lent, u_lent, r_m1, u_m1, r_m2, u_m2, r_m3, u_m3, r_m4, u_m4, r_m5, u_m5, r_m6, u_m6, r_m7, u_m7, r_ml, u_ml, r_mr, u_mr, r_tc, u_tc, r_tn0, u_tn0, r_tn1, u_tn1, r_tn2, u_tn2, r_tl, u_tl, r_tr, u_tr, r_w0, u_w0, r_w1, u_w1, r_w2, u_w2, r_w3, u_w3, r_w4, u_w4, r_w5, u_w5, r_w6, u_w6, r_w7, u_w7, r_w8, u_w8, r_w9, u_w9, r_wa, u_wa, e1, e2, e3, e4, hH, lr_0]
  refine ⟨hB.p2 hm, fun c => ⟨bz0, ?_⟩, fun c => ⟨hB, fun c2 => ⟨bz0, ?_⟩, fun c2 => ⟨fun c4 => ⟨bz0, ?_⟩, fun c4 => ⟨bz1, ?_⟩⟩⟩⟩
  · rw [if_neg (by simp [canB, show loN σ m = 0 by omega])] at h
    exact h
  · rw [if_neg (by simp [canB, c2])] at h
    exact h
  · rw [if_neg (by simp [canB, c4])] at h
    exact h
  · rw [if_pos (by simp [canB, c4, hf, Int32.not_lt.mp c2, show 1 ≤ loN σ m by omega, Int32.not_le.mp c4])] at h
    exact h
theorem t1_cases {p : Bool} (c : (if p = true then (1 : Int32) else 0) = 0) : p = false := by
  cases p with
  | false => rfl
  | true => exact absurd c (by decide)
theorem t0_cases {p : Bool} (c : ¬ (if p = true then (1 : Int32) else 0) = 0) : p = true := by
  cases p with
  | true => rfl
  | false => exact absurd (by rfl) c
theorem c_waited {Q : Int32 → MI → Prop} (hB : IsBus K R b) (hS : InvS σ) (hG : AgD ρ σ) (hH : ∀ m, m < 4 → ρ (2361 + m) = nI (holdsN σ m)) (hf : (freeO σ).isSome = true) (h : Q (oI (patL σ 4)) (stB J b ρ)) : w_X0_masterThatWaitedTooLong K R b (stB J b ρ) Q := by
  have hG1 := hG.1
  have e3 : ρ 3 = σ 3 := hG1 _ (by omega) (by omega) (by omega)
  have eW : ∀ m, m < 4 → ρ (21 + 11 * m + 10) = σ (21 + 11 * m + 10) := fun m hm => hG1 _ (by omega) (by omega) (by omega)
  unfold w_X0_masterThatWaitedTooLong w_X0_masterThatWaitedTooLong_b7
  intro X hX
  have key : ∀ d k, k + d = 4 → ∀ z, (∀ g, patL σ k = some g → z = σ (21 + 11 * g + 10)) → X (oI (patL σ k)) z (nI k) (stB J b ρ) := by
    intro d
    induction d with
    | zero =>
      intro k hk z hz
      refine hX _ _ _ _ ?_
      have hk4 : k = 4 := by omega
      subst hk4
      unfold w_X0_masterThatWaitedTooLong_b7_body
      simp (disch := omega) only [← Nat.add_assoc, true_and, and_true, true_implies, forall_eq, forall_eq', not_true, not_false_iff, false_implies, Option.some.injEq, reduceCtorEq, exists_eq_left', implies_true, nl_1, nr_1, ix_nI, vpT, r_b_q, u_b_q, r_b_tk, u_b_tk, r_b_lt, u_b_lt, r_b_tm, u_b_tm, r_b_tt, u_b_tt, r_b_at, u_b_at, r_b_qt, u_b_qt, r_b_rt, u_b_rt, r_b_id, u_b_id, r_b_ov, u_b_ov, r_set0, u_set0, r_set1, u_set1, r_set2, u_set2, r_lent, u_lent, r_m1, u_m1, r_m2, u_m2, r_m3, u_m3, r_m4, u_m4, r_m5, u_m5, r_m6, u_m6, r_m7, u_m7, r_ml, u_ml, r_mr, u_mr, r_tc, u_tc, r_tn0, u_tn0, r_tn1, u_tn1, r_tn2, u_tn2, r_tl, u_tl, r_tr, u_tr, r_w0, u_w0, r_w1, u_w1, r_w2, u_w2, r_w3, u_w3, r_w4, u_w4, r_w5, u_w5, r_w6, u_w6, r_w7, u_w7, r_w8, u_w8, r_w9, u_w9, r_wa, u_wa, ll_4, Nat.le_refl]
      exact h
    | succ d ih =>
      intro k hk z hz
      refine hX _ _ _ _ ?_
      have hk4 : ¬ 4 ≤ k := by omega
      have ih1 := ih (k + 1) (by omega)
      unfold patL at ih1
      unfold w_X0_masterThatWaitedTooLong_b7_body w_X0_masterThatWaitedTooLong_b65 w_X0_masterThatWaitedTooLong_b57 w_X0_masterThatWaitedTooLong_b65
      simp (disch := omega) only [← Nat.add_assoc, true_and, and_true, true_implies, forall_eq, forall_eq', not_true, not_false_iff, false_implies, Option.some.injEq, reduceCtorEq, exists_eq_left', implies_true, nl_1, nr_1, ix_nI, vpT, r_b_q, u_b_q, r_b_tk, u_b_tk, r_b_lt, u_b_lt, r_b_tm, u_b_tm, r_b_tt, u_b_tt, r_b_at, u_b_at, r_b_qt, u_b_qt, r_b_rt, u_b_rt, r_b_id, u_b_id, r_b_ov, u_b_ov, r_set0, u_set0, r_set1, u_set1, r_set2, u_set2, r_lent, u_lent, r_m1, u_m1, r_m2, u_m2, r_m3, u_m3, r_m4, u_m4, r_m5, u_m5, r_m6, u_m6, r_m7, u_m7, r_ml, u_ml, r_mr, u_mr, r_tc, u_tc, r_tn0, u_tn0, r_tn1, u_tn1, r_tn2, u_tn2, r_tl, u_tl, r_tr, u_tr, r_w0, u_w0, r_w1, u_w1, r_w2, u_w2, r_w3, u_w3, r_w4, u_w4, r_w5, u_w5, r_w6, u_w6, r_w7, u_w7, r_w8, u_w8, r_w9, u_w9, r_wa, u_wa, ll_4, hk4]
      refine ⟨hB, c_masterAt hB (by omega) ?_⟩
      simp (disch := omega) only [← Nat.add_assoc, true_and, and_true, true_implies, forall_eq, forall_eq', not_true, not_false_iff, false_implies, Option.some.injEq, reduceCtorEq, exists_eq_left', implies_true, nl_1, nr_1, ix_nI, vpT, r_b_q, u_b_q, r_b_tk, u_b_tk, r_b_lt, u_b_lt, r_b_tm, u_b_tm, r_b_tt, u_b_tt, r_b_at, u_b_at, r_b_qt, u_b_qt, r_b_rt, u_b_rt, r_b_id, u_b_id, r_b_ov, u_b_ov, r_set0, u_set0, r_set1, u_set1, r_set2, u_set2, r_lent, u_lent, r_m1, u_m1, r_m2, u_m2, r_m3, u_m3, r_m4, u_m4, r_m5, u_m5, r_m6, u_m6, r_m7, u_m7, r_ml, u_ml, r_mr, u_mr, r_tc, u_tc, r_tn0, u_tn0, r_tn1, u_tn1, r_tn2, u_tn2, r_tl, u_tl, r_tr, u_tr, r_w0, u_w0, r_w1, u_w1, r_w2, u_w2, r_w3, u_w3, r_w4, u_w4, r_w5, u_w5, r_w6, u_w6, r_w7, u_w7, r_w8, u_w8, r_w9, u_w9, r_wa, u_wa]
      refine c_maySend hB hS hG (by omega) (hH k (by omega)) hf ⟨fun c => ?_, fun c => ?_⟩
      · have hf := t1_cases c
        rw [if_neg (by simp [patB, hf])] at ih1
        exact ih1 z hz
      · have hf := t0_cases c
        have e10 := eW k (by omega)
        unfold w_X0_isOutOfPatience w_X0_isOutOfPatience_b18
        simp (disch := omega) only [← Nat.add_assoc, true_and, and_true, true_implies, forall_eq, forall_eq', not_true, not_false_iff, false_implies, Option.some.injEq, reduceCtorEq, exists_eq_left', implies_true, nl_1, nr_1, ix_nI, vpT, r_b_q, u_b_q, r_b_tk, u_b_tk, r_b_lt, u_b_lt, r_b_tm, u_b_tm, r_b_tt, u_b_tt, r_b_at, u_b_at, r_b_qt, u_b_qt, r_b_rt, u_b_rt, r_b_id, u_b_id, r_b_ov, u_b_ov, r_set0, u_set0, r_set1, u_set1, r_set2, u_set2, r_lent, u_lent, r_m1, u_m1, r_m2, u_m2, r_m3, u_m3, r_m4, u_m4, r_m5, u_m5, r_m6, u_m6, r_m7, u_m7, r_ml, u_ml, r_mr, u_mr, r_tc, u_tc, r_tn0, u_tn0, r_tn1, u_tn1, r_tn2, u_tn2, r_tl, u_tl, r_tr, u_tr, r_w0, u_w0, r_w1, u_w1, r_w2, u_w2, r_w3, u_w3, r_w4, u_w4, r_w5, u_w5, r_w6, u_w6, r_w7, u_w7, r_w8, u_w8, r_w9, u_w9, r_wa, u_wa, e3, e10]
        refine ⟨hB.p2 (by omega), hB, fun c2 => ⟨bz0, ?_⟩, fun c2 => ⟨bz1, fun e => absurd e z10, fun _ => ⟨fun c3 => ⟨hB.p2 (by omega), ?_⟩, fun c3 => ⟨hB.p2 (by omega), fun c4 => ?_, fun c4 => ⟨hB.p2 (by omega), ?_⟩⟩⟩⟩⟩
        · rw [if_neg (by simp [patB, c2])] at ih1
          exact ih1 z hz
        · have hp : patL σ k = none := by
            cases hp : patL σ k with
            | none => rfl
            | some g =>
              have := patL_lt _ _ hp
              exact absurd c3 (oI_ne hp (by omega))
          rw [hp, if_pos (by simp [patB, hf, Int32.not_lt.mp c2])] at ih1
          exact ih1 _ (fun g hg => by cases hg; rfl)
        · cases hp : patL σ k with
          | none => exact absurd (oI_none hp) c3
          | some g =>
            have hz1 := hz g hp
            subst hz1
            rw [hp, if_neg (by simp [patB, c4])] at ih1
            exact ih1 _ (fun g' hg => by cases hg; rfl)
        · cases hp : patL σ k with
          | none => exact absurd (oI_none hp) c3
          | some g =>
            have hz1 := hz g hp
            subst hz1
            rw [hp, if_pos (by simp [patB, hf, Int32.not_lt.mp c2, Int32.not_le.mp c4])] at ih1
            exact ih1 _ (fun g' hg => by cases hg; rfl)
  exact key 4 0 rfl 0 (fun g hg => by cases hg)
theorem c_master {Q : Int32 → MI → Prop} (hB : IsBus K R b) (hS : InvS σ) (hG : AgD ρ σ) (hH : ∀ m, m < 4 → ρ (2361 + m) = nI (holdsN σ m)) (h : Q (oI (mstO σ)) (stB J b ρ)) : w_X0_masterThatSends K R b (stB J b ρ) Q := by
  obtain ⟨-, -, ht, et⟩ := hS.turns
  have e7 : ρ 7 = nI (ix (σ 7)) := by rw [hG.1 7 (by omega) (by omega) (by omega)]; exact et
  unfold w_X0_masterThatSends
  refine ⟨hB, c_freeTag hB hS hG.1 ⟨fun c => ?_, fun c => ?_⟩⟩
  · have hf : (freeO σ).isSome = true := by
      cases hf : freeO σ with
      | none => exact absurd (oI_none hf) c
      | some g => rfl
    refine c_waited hB hS hG hH hf ⟨fun c2 => ?_, fun c2 => ?_⟩
    · have hp : patL σ 4 = none := by
        cases hp : patL σ 4 with
        | none => rfl
        | some g =>
          have := patL_lt _ _ hp
          exact absurd c2 (oI_ne hp (by omega))
      unfold w_X0_masterThatSends_b27
      intro X hX
      have key : ∀ d k, k + d = 4 → (∀ j, j < k → canB σ (t4 (ix (σ 7)) j) = false) → X (nI k) (stB J b ρ) := by
        intro d
        induction d with
        | zero =>
          intro k hk hj
          refine hX _ _ ?_
          have hk4 : 4 ≤ k := by omega
          unfold w_X0_masterThatSends_b27_body
          simp (disch := omega) only [← Nat.add_assoc, true_and, and_true, true_implies, forall_eq, forall_eq', not_true, not_false_iff, false_implies, Option.some.injEq, reduceCtorEq, exists_eq_left', implies_true, nl_1, nr_1, ix_nI, vpT, r_b_q, u_b_q, r_b_tk, u_b_tk, r_b_lt, u_b_lt, r_b_tm, u_b_tm, r_b_tt, u_b_tt, r_b_at, u_b_at, r_b_qt, u_b_qt, r_b_rt, u_b_rt, r_b_id, u_b_id, r_b_ov, u_b_ov, r_set0, u_set0, r_set1, u_set1, r_set2, u_set2, r_lent, u_lent, r_m1, u_m1, r_m2, u_m2, r_m3, u_m3, r_m4, u_m4, r_m5, u_m5, r_m6, u_m6, r_m7, u_m7, r_ml, u_ml, r_mr, u_mr, r_tc, u_tc, r_tn0, u_tn0, r_tn1, u_tn1, r_tn2, u_tn2, r_tl, u_tl, r_tr, u_tr, r_w0, u_w0, r_w1, u_w1, r_w2, u_w2, r_w3, u_w3, r_w4, u_w4, r_w5, u_w5, r_w6, u_w6, r_w7, u_w7, r_w8, u_w8, r_w9, u_w9, r_wa, u_wa, ll_4, hk4]
          have : mstO σ = none := by unfold mstO; rw [hp, find_none (fun j h => hj j (by omega))]; rfl
          rw [this] at h
          exact h
        | succ d ih =>
          intro k hk hj
          refine hX _ _ ?_
          have hk4 : ¬ 4 ≤ k := by omega
          unfold w_X0_masterThatSends_b27_body w_X0_masterThatSends_b64
          simp (disch := omega) only [← Nat.add_assoc, true_and, and_true, true_implies, forall_eq, forall_eq', not_true, not_false_iff, false_implies, Option.some.injEq, reduceCtorEq, exists_eq_left', implies_true, nl_1, nr_1, ix_nI, vpT, r_b_q, u_b_q, r_b_tk, u_b_tk, r_b_lt, u_b_lt, r_b_tm, u_b_tm, r_b_tt, u_b_tt, r_b_at, u_b_at, r_b_qt, u_b_qt, r_b_rt, u_b_rt, r_b_id, u_b_id, r_b_ov, u_b_ov, r_set0, u_set0, r_set1, u_set1, r_set2, u_set2, r_lent, u_lent, r_m1, u_m1, r_m2, u_m2, r_m3, u_m3, r_m4, u_m4, r_m5, u_m5, r_m6, u_m6, r_m7, u_m7, r_ml, u_ml, r_mr, u_mr, r_tc, u_tc, r_tn0, u_tn0, r_tn1, u_tn1, r_tn2, u_tn2, r_tl, u_tl, r_tr, u_tr, r_w0, u_w0, r_w1, u_w1, r_w2, u_w2, r_w3, u_w3, r_w4, u_w4, r_w5, u_w5, r_w6, u_w6, r_w7, u_w7, r_w8, u_w8, r_w9, u_w9, r_wa, u_wa, ll_4, hk4, e7]
          rw [nI_add, nI_t4 (by omega)]
          refine ⟨hB, c_masterAt hB (t4_lt _ _) ?_⟩
          simp (disch := omega) only [← Nat.add_assoc, true_and, and_true, true_implies, forall_eq, forall_eq', not_true, not_false_iff, false_implies, Option.some.injEq, reduceCtorEq, exists_eq_left', implies_true, nl_1, nr_1, ix_nI, vpT, r_b_q, u_b_q, r_b_tk, u_b_tk, r_b_lt, u_b_lt, r_b_tm, u_b_tm, r_b_tt, u_b_tt, r_b_at, u_b_at, r_b_qt, u_b_qt, r_b_rt, u_b_rt, r_b_id, u_b_id, r_b_ov, u_b_ov, r_set0, u_set0, r_set1, u_set1, r_set2, u_set2, r_lent, u_lent, r_m1, u_m1, r_m2, u_m2, r_m3, u_m3, r_m4, u_m4, r_m5, u_m5, r_m6, u_m6, r_m7, u_m7, r_ml, u_ml, r_mr, u_mr, r_tc, u_tc, r_tn0, u_tn0, r_tn1, u_tn1, r_tn2, u_tn2, r_tl, u_tl, r_tr, u_tr, r_w0, u_w0, r_w1, u_w1, r_w2, u_w2, r_w3, u_w3, r_w4, u_w4, r_w5, u_w5, r_w6, u_w6, r_w7, u_w7, r_w8, u_w8, r_w9, u_w9, r_wa, u_wa]
          refine c_maySend hB hS hG (t4_lt _ _) (hH _ (t4_lt _ _)) hf ⟨fun c => ?_, fun c => ?_⟩
          · exact ih (k + 1) (by omega) (fun j h2 => by
              rcases Nat.lt_succ_iff_lt_or_eq.mp h2 with h3 | h3
              · exact hj j h3
              · subst h3; exact t1_cases c)
          · have hf := t0_cases c
            have : mstO σ = some (t4 (ix (σ 7)) k) := by unfold mstO; rw [hp, find_some (k := k) (by omega) hf hj]; rfl
            rw [this] at h
            exact h
      exact key 4 0 rfl (fun j h => absurd h (by omega))
    · cases hp : patL σ 4 with
      | none => exact absurd (oI_none hp) c2
      | some g =>
        have : mstO σ = some g := by unfold mstO; rw [hp]
        rw [this] at h
        exact h
  · have hfn : (freeO σ).isSome = false := by
      cases hf : freeO σ with
      | none => rfl
      | some g =>
        obtain ⟨hT, h1, h8⟩ := hS.T1
        have := (freeO_lt hf).1
        exact absurd c (oI_ne hf (by omega))
    have hcan : ∀ m, canB σ m = false := fun m => by simp [canB, hfn]
    have hp : ∀ k, patL σ k = none := by
      intro k
      induction k with
      | zero => rfl
      | succ k ih => unfold patL; rw [if_neg (by simp [patB, hcan])]; exact ih
    have : mstO σ = none := by unfold mstO; rw [hp, find_none (fun j h => hcan _)]; rfl
    rw [this] at h
    exact h
theorem c_prefers {Q : Int32 → MI → Prop} (hB : IsBus K R b) (hG : AgD ρ σ) (hM : σ 2 = 0 ∨ σ 2 = 1 ∨ σ 2 = 2) (hL : ρ 5 = 0 ∨ ρ 5 = 2 ↔ σ 5 = 0) (h : Q (if ansFst σ = true then 1 else 0) (stB J b ρ)) : w_X0_prefersAnswer K R b (stB J b ρ) Q := by
  have e2 : ρ 2 = σ 2 := hG.1 _ (by omega) (by omega) (by omega)
  unfold w_X0_prefersAnswer w_X0_prefersAnswer_b16 w_X0_prefersAnswer_b25 w_X0_prefersAnswer_b41 w_X0_prefersAnswer_b46
  simp (disch := omega) only [← Nat.add_assoc, true_and, and_true, true_implies, forall_eq, forall_eq', not_true, not_false_iff, false_implies, Option.some.injEq, reduceCtorEq, exists_eq_left', implies_true, nl_1, nr_1, ix_nI, vpT, r_b_q, u_b_q, r_b_tk, u_b_tk, r_b_lt, u_b_lt, r_b_tm, u_b_tm, r_b_tt, u_b_tt, r_b_at, u_b_at, r_b_qt, u_b_qt, r_b_rt, u_b_rt, r_b_id, u_b_id, r_b_ov, u_b_ov, r_set0, u_set0, r_set1, u_set1, r_set2, u_set2, r_lent, u_lent, r_m1, u_m1, r_m2, u_m2, r_m3, u_m3, r_m4, u_m4, r_m5, u_m5, r_m6, u_m6, r_m7, u_m7, r_ml, u_ml, r_mr, u_mr, r_tc, u_tc, r_tn0, u_tn0, r_tn1, u_tn1, r_tn2, u_tn2, r_tl, u_tl, r_tr, u_tr, r_w0, u_w0, r_w1, u_w1, r_w2, u_w2, r_w3, u_w3, r_w4, u_w4, r_w5, u_w5, r_w6, u_w6, r_w7, u_w7, r_w8, u_w8, r_w9, u_w9, r_wa, u_wa, e2]
  have t1 : ansFst σ = true → Q 1 (stB J b ρ) := fun e => by rw [if_pos e] at h; exact h
  have t0 : ansFst σ = false → Q 0 (stB J b ρ) := fun e => by rw [if_neg (by rw [e]; decide)] at h; exact h
  refine ⟨hB, fun c => ⟨fun d => absurd c d, fun _ => ⟨bz1, t1 (by simp [ansFst, c])⟩⟩, fun c => ⟨fun c2 => ⟨fun c3 => ⟨bz1, t1 ?_⟩, fun c3 => ⟨fun c4 => ⟨bz0, t0 ?_⟩, fun c4 => ⟨bz1, t1 ?_⟩⟩⟩, fun c2 => ⟨fun d => ⟨bz0, t0 (by simp [ansFst, c2])⟩, fun d => absurd d c⟩⟩⟩
  · have h5 := hL.mp (Or.inl c3)
    have h2 : σ 2 = 2 := by rcases hM with e | e | e; exact absurd e c; exact absurd e c2; exact e
    simp [ansFst, h5, h2]
  · have h5 : ¬ σ 5 = 0 := fun e => (hL.mpr e).elim c3 c4
    simp [ansFst, h5, c]
  · have h5 := hL.mp (Or.inr c4)
    have h2 : σ 2 = 2 := by rcases hM with e | e | e; exact absurd e c; exact absurd e c2; exact e
    simp [ansFst, h5, h2]
end CD
