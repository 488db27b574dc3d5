section SC
variable {K : MK} {R : MR} {I J : MI} {t r b : Nat} {S : St}
/-- the highest lent tag -/
def hiL (σ : Sr) : Nat → Int32
  | 0 => -5
  | n + 1 => if σ (13 + n) = -5 then hiL σ n else nI n
theorem hiL_ok {σ : Sr} {T' : Nat} (hT : T' < 2 ^ 31) : ∀ n, n ≤ 8 → (hiL σ n < nI T' ↔ ∀ k, k < n → T' ≤ k → σ (13 + k) = -5)
  | 0, _ => by
    refine ⟨fun _ k hk => by omega, fun _ => ?_⟩
    unfold hiL
    have h0 : (-5 : Int32) < 0 := by decide
    exact Int32.lt_of_lt_of_le h0 (nI_pos' hT)
  | n + 1, hn => by
    have ih := hiL_ok (σ := σ) hT n (by omega)
    unfold hiL
    by_cases c : σ (13 + n) = -5
    · rw [if_pos c, ih]
      refine ⟨fun h k hk hk2 => ?_, fun h k hk hk2 => h k (by omega) hk2⟩
      by_cases e : k = n
      · subst e; exact c
      · exact h k (by omega) hk2
    · rw [if_neg c, nI_ltI (by omega) hT]
      refine ⟨fun h k hk hk2 => by omega, fun h => ?_⟩
      rcases Nat.lt_or_ge n T' with z | z
      · exact z
      · exact absurd (h n (by omega) z) c
theorem c_highest {Q : Int32 → MI → Prop} {ρ σ : Sr} (hB : IsBus K R b) (hl : ∀ k, k < 8 → ρ (13 + k) = σ (13 + k)) (h : Q (hiL σ 8) (stB J b ρ)) : w_X0_highestLentTag K R b (stB J b ρ) Q := by
  unfold w_X0_highestLentTag w_X0_highestLentTag_b5
  intro X hX
  have key : ∀ d k, k + d = 8 → X (hiL σ k) (nI k) (stB J b ρ) := by
    intro d
    induction d with
    | zero =>
      intro k hk
      refine hX _ _ _ ?_
      have hk8 : k = 8 := by omega
      subst hk8
      unfold w_X0_highestLentTag_b5_body
      simp (disch := omega) only [← Nat.add_assoc, true_and, and_true, true_implies, forall_eq, forall_eq', not_true, not_false_iff, false_implies, Option.some.injEq, reduceCtorEq, exists_eq_left', implies_true, nl_1, nr_1, ix_nI, vpT, r_b_q, u_b_q, r_b_tk, u_b_tk, r_b_lt, u_b_lt, r_b_tm, u_b_tm, r_b_tt, u_b_tt, r_b_at, u_b_at, r_b_qt, u_b_qt, r_b_rt, u_b_rt, r_b_id, u_b_id, r_b_ov, u_b_ov, r_set0, u_set0, r_set1, u_set1, r_set2, u_set2, r_lent, u_lent, r_m1, u_m1, r_m2, u_m2, r_m3, u_m3, r_m4, u_m4, r_m5, u_m5, r_m6, u_m6, r_m7, u_m7, r_ml, u_ml, r_mr, u_mr, r_tc, u_tc, r_tn0, u_tn0, r_tn1, u_tn1, r_tn2, u_tn2, r_tl, u_tl, r_tr, u_tr, r_w0, u_w0, r_w1, u_w1, r_w2, u_w2, r_w3, u_w3, r_w4, u_w4, r_w5, u_w5, r_w6, u_w6, r_w7, u_w7, r_w8, u_w8, r_w9, u_w9, r_wa, u_wa, ll_8, Nat.le_refl]
      exact h
    | succ d ih =>
      intro k hk
      refine hX _ _ _ ?_
      have hk8 : ¬ 8 ≤ k := by omega
      have ih1 := ih (k + 1) (by omega)
      unfold hiL at ih1
      unfold w_X0_highestLentTag_b5_body w_X0_highestLentTag_b24
      simp (disch := omega) only [← Nat.add_assoc, true_and, and_true, true_implies, forall_eq, forall_eq', not_true, not_false_iff, false_implies, Option.some.injEq, reduceCtorEq, exists_eq_left', implies_true, nl_1, nr_1, ix_nI, vpT, r_b_q, u_b_q, r_b_tk, u_b_tk, r_b_lt, u_b_lt, r_b_tm, u_b_tm, r_b_tt, u_b_tt, r_b_at, u_b_at, r_b_qt, u_b_qt, r_b_rt, u_b_rt, r_b_id, u_b_id, r_b_ov, u_b_ov, r_set0, u_set0, r_set1, u_set1, r_set2, u_set2, r_lent, u_lent, r_m1, u_m1, r_m2, u_m2, r_m3, u_m3, r_m4, u_m4, r_m5, u_m5, r_m6, u_m6, r_m7, u_m7, r_ml, u_ml, r_mr, u_mr, r_tc, u_tc, r_tn0, u_tn0, r_tn1, u_tn1, r_tn2, u_tn2, r_tl, u_tl, r_tr, u_tr, r_w0, u_w0, r_w1, u_w1, r_w2, u_w2, r_w3, u_w3, r_w4, u_w4, r_w5, u_w5, r_w6, u_w6, r_w7, u_w7, r_w8, u_w8, r_w9, u_w9, r_wa, u_wa, ll_8, hk8, hl]
      refine ⟨hB, fun c => ?_, fun c => ?_⟩
      · rw [if_pos c] at ih1; exact ih1
      · rw [if_neg c] at ih1; exact ih1
  exact key 8 0 rfl
end SC
