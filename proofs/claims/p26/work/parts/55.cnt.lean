section CNT
variable {K : MK} {R : MR} {I J : MI} {t r b : Nat} {S : St}
def frB (σ : Sr) (k : Nat) : Bool := σ (13 + k) == -5
theorem c_freeTags {Q : Int32 → MI → Prop} {ρ σ : Sr} (hB : IsBus K R b) (hS : InvS σ) (hG : Ag ρ σ (ix (σ 4))) (h : Q (nI (cnt (frB σ) (Tg_ σ))) (stB J b ρ)) : w_X0_freeTags K R b (stB J b ρ) Q := by
  obtain ⟨hT, h1, h8⟩ := hS.T1
  have hs : ρ 1 = nI (Tg_ σ) := by rw [hG 1 (by omega) (by omega) (by omega)]; exact hT
  have hl : ∀ k, k < 8 → ρ (13 + k) = σ (13 + k) := fun k hk => hG _ (by omega) (by omega) (by omega)
  unfold w_X0_freeTags w_X0_freeTags_b4
  intro X hX
  have key : ∀ d k, k + d = Tg_ σ → X (nI (cnt (frB σ) k)) (nI k) (stB J b ρ) := by
    intro d
    induction d with
    | zero =>
      intro k hk
      refine hX _ _ _ ?_
      have hk2 : Tg_ σ ≤ k := by omega
      have hk3 : k = Tg_ σ := by omega
      unfold w_X0_freeTags_b4_body w_X0_freeTags_b40
      simp (disch := omega) only [← Nat.add_assoc, true_and, and_true, true_implies, forall_eq, forall_eq', not_true, not_false_iff, false_implies, Option.some.injEq, reduceCtorEq, exists_eq_left', implies_true, nl_1, nr_1, ix_nI, vpT, r_b_q, u_b_q, r_b_tk, u_b_tk, r_b_lt, u_b_lt, r_b_tm, u_b_tm, r_b_tt, u_b_tt, r_b_at, u_b_at, r_b_qt, u_b_qt, r_b_rt, u_b_rt, r_b_id, u_b_id, r_b_ov, u_b_ov, r_set0, u_set0, r_set1, u_set1, r_set2, u_set2, r_lent, u_lent, r_m1, u_m1, r_m2, u_m2, r_m3, u_m3, r_m4, u_m4, r_m5, u_m5, r_m6, u_m6, r_m7, u_m7, r_ml, u_ml, r_mr, u_mr, r_tc, u_tc, r_tn0, u_tn0, r_tn1, u_tn1, r_tn2, u_tn2, r_tl, u_tl, r_tr, u_tr, r_w0, u_w0, r_w1, u_w1, r_w2, u_w2, r_w3, u_w3, r_w4, u_w4, r_w5, u_w5, r_w6, u_w6, r_w7, u_w7, r_w8, u_w8, r_w9, u_w9, r_wa, u_wa, hs, nI_leI', hk2]
      rw [hk3]
      exact ⟨hB, h⟩
    | succ d ih =>
      intro k hk
      refine hX _ _ _ ?_
      have hk2 : ¬ Tg_ σ ≤ k := by omega
      have hk8 : ¬ 8 ≤ k := by omega
      have ih1 := ih (k + 1) (by omega)
      unfold w_X0_freeTags_b4_body w_X0_freeTags_b34
      simp (disch := omega) only [← Nat.add_assoc, true_and, and_true, true_implies, forall_eq, forall_eq', not_true, not_false_iff, false_implies, Option.some.injEq, reduceCtorEq, exists_eq_left', implies_true, nl_1, nr_1, ix_nI, vpT, r_b_q, u_b_q, r_b_tk, u_b_tk, r_b_lt, u_b_lt, r_b_tm, u_b_tm, r_b_tt, u_b_tt, r_b_at, u_b_at, r_b_qt, u_b_qt, r_b_rt, u_b_rt, r_b_id, u_b_id, r_b_ov, u_b_ov, r_set0, u_set0, r_set1, u_set1, r_set2, u_set2, r_lent, u_lent, r_m1, u_m1, r_m2, u_m2, r_m3, u_m3, r_m4, u_m4, r_m5, u_m5, r_m6, u_m6, r_m7, u_m7, r_ml, u_ml, r_mr, u_mr, r_tc, u_tc, r_tn0, u_tn0, r_tn1, u_tn1, r_tn2, u_tn2, r_tl, u_tl, r_tr, u_tr, r_w0, u_w0, r_w1, u_w1, r_w2, u_w2, r_w3, u_w3, r_w4, u_w4, r_w5, u_w5, r_w6, u_w6, r_w7, u_w7, r_w8, u_w8, r_w9, u_w9, r_wa, u_wa, hs, nI_leI', ll_8, hk2, hk8, hl]
      refine ⟨hB, fun c => ?_, fun c => ?_⟩
      · rw [cnt_f (show frB σ k = false from beq_eq_false_iff_ne.mpr c)] at ih1
        exact ih1
      · rw [cnt_t (show frB σ k = true by unfold frB; rw [c]; rfl)] at ih1
        exact ih1
  exact key (Tg_ σ) 0 (by omega)
end CNT
