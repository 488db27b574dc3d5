def Same (ρ ρ' : Sr) : Prop := ρ' 5 = ρ 5 ∧ ∀ k, 2361 ≤ k → ρ' k = ρ k
theorem Same.rfl' (ρ : Sr) : Same ρ ρ := ⟨rfl, fun _ _ => rfl⟩
theorem Same.trans {a b c : Sr} (h : Same a b) (g : Same b c) : Same a c := ⟨g.1.trans h.1, fun k hk => (g.2 k hk).trans (h.2 k hk)⟩
theorem Same.su {a b : Sr} (h : Same a b) {k : Nat} {x : Int32} (hk : k ≠ 5 ∧ k < 2361) : Same a (su b k x) := ⟨by rw [su_n (by omega)]; exact h.1, fun j hj => by rw [su_n (by omega)]; exact h.2 j hj⟩
theorem su_comm {σ : Sr} {a b : Nat} {x y : Int32} (h : a ≠ b) : su (su σ a x) b y = su (su σ b y) a x := by
  funext j
  by_cases h1 : j = a
  · subst h1; rw [su_n h, su_s, su_s]
  · rw [su_n h1]
    by_cases h2 : j = b
    · subst h2; rw [su_s, su_s]
    · rw [su_n h2, su_n h2, su_n h1]
theorem DR.fr {ρ σ ρ' σ' : Sr} {A : Nat} (h : DR ρ σ A) (hq : ∀ q, q < A → OnT σ' q → OnT σ q ∧ ρ' (161 + 11 * q + 10) = ρ (161 + 11 * q + 10) ∧ σ' (161 + 11 * q + 10) = σ (161 + 11 * q + 10)) : DR ρ' σ' A := by
  intro q h1 h2
  obtain ⟨a, b, c⟩ := hq q h1 h2
  rw [b, c]
  exact h q h1 a
section CB
variable {K : MK} {R : MR} {I J : MI} {b : Nat} {σ ρ : Sr}
theorem doOne_4 {t k : Nat} (hS : InvS σ) (ht : t < 4) (hk : k < inN σ t) : doOne σ t k 4 = σ 4 := doOne_n ((hS.lists ht).2.2 k hk).2.2.2.1 (by omega) ht
theorem c_finish {Q : MI → Prop} (hB : IsBus K R b) (hS : InvS σ) (hG : AgD ρ σ) (h : ∀ ρ', AgD ρ' (doAllS σ) → Same ρ ρ' → Q (stB J b ρ')) : w_X0_finishQuestions K R b (stB J b ρ) Q := by
  unfold w_X0_finishQuestions w_X0_finishQuestions_b10
  refine ⟨hB, ?_⟩
  intro X hX
  have key : ∀ d t, t + d = 4 → ∀ ρ', AgD ρ' (doAllL σ t) → Same ρ ρ' → X 4 (nI t) (stB J b ρ') := by
    intro d
    induction d with
    | zero =>
      intro t ht ρ' hG' hm
      refine hX _ _ _ ?_
      have ht4 : t = 4 := by omega
      subst ht4
      unfold w_X0_finishQuestions_b10_body
      simp (disch := omega) only [← Nat.add_assoc, true_and, and_true, true_implies, forall_eq, forall_eq', not_true, not_false_iff, false_implies, Option.some.injEq, reduceCtorEq, exists_eq_left', implies_true, nl_1, nr_1, ix_nI, vpT, r_b_q, u_b_q, r_b_tk, u_b_tk, r_b_lt, u_b_lt, r_b_tm, u_b_tm, r_b_tt, u_b_tt, r_b_at, u_b_at, r_b_qt, u_b_qt, r_b_rt, u_b_rt, r_b_id, u_b_id, r_b_ov, u_b_ov, r_set0, u_set0, r_set1, u_set1, r_set2, u_set2, r_lent, u_lent, r_m1, u_m1, r_m2, u_m2, r_m3, u_m3, r_m4, u_m4, r_m5, u_m5, r_m6, u_m6, r_m7, u_m7, r_ml, u_ml, r_mr, u_mr, r_tc, u_tc, r_tn0, u_tn0, r_tn1, u_tn1, r_tn2, u_tn2, r_tl, u_tl, r_tr, u_tr, r_w0, u_w0, r_w1, u_w1, r_w2, u_w2, r_w3, u_w3, r_w4, u_w4, r_w5, u_w5, r_w6, u_w6, r_w7, u_w7, r_w8, u_w8, r_w9, u_w9, r_wa, u_wa, ll_4, Nat.le_refl]
      exact h ρ' hG' hm
    | succ d ih =>
      intro t ht ρ' hG' hm
      have h4 : ¬ 4 ≤ t := by omega
      obtain ⟨hτ, -⟩ := doAllL_inv hS t (by omega)
      have ih1 := ih (t + 1) (by omega)
      unfold doAllL at ih1
      generalize doAllL σ t = τ at hτ ih1 hG' ⊢
      refine hX _ _ _ ?_
      unfold w_X0_finishQuestions_b10_body w_X0_finishQuestions_b23
      simp (disch := omega) only [← Nat.add_assoc, true_and, and_true, true_implies, forall_eq, forall_eq', not_true, not_false_iff, false_implies, Option.some.injEq, reduceCtorEq, exists_eq_left', implies_true, nl_1, nr_1, ix_nI, vpT, r_b_q, u_b_q, r_b_tk, u_b_tk, r_b_lt, u_b_lt, r_b_tm, u_b_tm, r_b_tt, u_b_tt, r_b_at, u_b_at, r_b_qt, u_b_qt, r_b_rt, u_b_rt, r_b_id, u_b_id, r_b_ov, u_b_ov, r_set0, u_set0, r_set1, u_set1, r_set2, u_set2, r_lent, u_lent, r_m1, u_m1, r_m2, u_m2, r_m3, u_m3, r_m4, u_m4, r_m5, u_m5, r_m6, u_m6, r_m7, u_m7, r_ml, u_ml, r_mr, u_mr, r_tc, u_tc, r_tn0, u_tn0, r_tn1, u_tn1, r_tn2, u_tn2, r_tl, u_tl, r_tr, u_tr, r_w0, u_w0, r_w1, u_w1, r_w2, u_w2, r_w3, u_w3, r_w4, u_w4, r_w5, u_w5, r_w6, u_w6, r_w7, u_w7, r_w8, u_w8, r_w9, u_w9, r_wa, u_wa, ll_4, h4]
      refine ⟨hB, ?_⟩
      intro X9 hX9
      have inner : ∀ e k, k + e = inN τ t → ∀ ρ'', AgD ρ'' (doRow τ t k) → Same ρ ρ'' → X9 4 (nI t) (b + 18 + 5 * t) (nI k) (stB J b ρ'') := by
        intro e
        induction e with
        | zero =>
          intro k hk ρ'' hG'' hm''
          refine hX9 _ _ _ _ _ ?_
          obtain ⟨hρ, heq⟩ := doRow_inv hτ (t := t) (by omega) k (by omega)
          obtain ⟨hn, en, hj⟩ := hτ.lists (t := t) (by omega)
          have en2 : ρ'' (65 + 24 * t + 19) = nI (inN τ t) := by rw [hG''.1 _ (by omega) (by omega) (by omega), heq _ (by omega)]; exact en
          have hk2 : k = inN τ t := by omega
          unfold w_X0_finishQuestions_b23_body
          have hle : inN τ t ≤ k := by omega
          simp (disch := omega) only [← Nat.add_assoc, true_and, and_true, true_implies, forall_eq, forall_eq', not_true, not_false_iff, false_implies, Option.some.injEq, reduceCtorEq, exists_eq_left', implies_true, nl_1, nr_1, ix_nI, vpT, r_b_q, u_b_q, r_b_tk, u_b_tk, r_b_lt, u_b_lt, r_b_tm, u_b_tm, r_b_tt, u_b_tt, r_b_at, u_b_at, r_b_qt, u_b_qt, r_b_rt, u_b_rt, r_b_id, u_b_id, r_b_ov, u_b_ov, r_set0, u_set0, r_set1, u_set1, r_set2, u_set2, r_lent, u_lent, r_m1, u_m1, r_m2, u_m2, r_m3, u_m3, r_m4, u_m4, r_m5, u_m5, r_m6, u_m6, r_m7, u_m7, r_ml, u_ml, r_mr, u_mr, r_tc, u_tc, r_tn0, u_tn0, r_tn1, u_tn1, r_tn2, u_tn2, r_tl, u_tl, r_tr, u_tr, r_w0, u_w0, r_w1, u_w1, r_w2, u_w2, r_w3, u_w3, r_w4, u_w4, r_w5, u_w5, r_w6, u_w6, r_w7, u_w7, r_w8, u_w8, r_w9, u_w9, r_wa, u_wa, en2, nI_leI', hle]
          rw [hk2] at hG''
          exact ⟨hB.p3 (by omega), ih1 ρ'' hG'' hm''⟩
        | succ e ihe =>
          intro k hk ρ'' hG'' hm''
          refine hX9 _ _ _ _ _ ?_
          obtain ⟨hρ, heq⟩ := doRow_inv hτ (t := t) (by omega) k (by omega)
          have hin : inN (doRow τ t k) t = inN τ t := by unfold inN; rw [heq _ (by omega)]
          obtain ⟨hn, en, hj⟩ := hρ.lists (t := t) (by omega)
          obtain ⟨q1, q2, q3, ⟨a, ha, q4⟩, -⟩ := hj k (by omega)
          have q5 := (hρ.lists2 (t := t) (by omega) (j := k) (by omega)).1
          have ihe1 := ihe (k + 1) (by omega)
          unfold doRow at ihe1
          have h4' := doOne_4 hρ (t := t) (k := k) (by omega) (by omega)
          unfold AgD at ihe1
          rw [h4'] at ihe1
          unfold doOne at ihe1
          rw [ix_eq q4 (by omega)] at ihe1
          have hle : ¬ inN (doRow τ t k) t ≤ k := by omega
          obtain ⟨hA4, hA⟩ := hρ.A4
          unfold w_X0_finishQuestions_b23_body w_X0_finishQuestions_b104
          generalize doRow τ t k = υ at *
          obtain ⟨g1, g2⟩ := hG''
          have e1 : ρ'' (65 + 24 * t + 19) = nI (inN υ t) := by rw [g1 _ (by omega) (by omega) (by omega)]; exact en
          have e2 : ρ'' (65 + 24 * t + 20 + k) = nI (lsq υ t k) := by rw [g1 _ (by omega) (by omega) (by omega)]; exact q2
          have e3 : ρ'' 4 = nI (ix (υ 4)) := by rw [g1 4 (by omega) (by omega) (by omega)]; exact hA4
          have e4 : ρ'' (161 + 11 * lsq υ t k + 2) = nI a := by rw [g1.d q5 (by omega)]; exact q4
          have e5 := g1.d q5 (w := 4) (by omega)
          have e6 := g2 _ q5 q3
          have e7 : ρ'' 0 = υ 0 := g1 0 (by omega) (by omega) (by omega)
          have e8 := g1.d q5 (w := 3) (by omega)
          have e9 : ρ'' (65 + 24 * t + a) = υ (65 + 24 * t + a) := g1 _ (by omega) (by omega) (by omega)
          simp (disch := omega) only [← Nat.add_assoc, true_and, and_true, true_implies, forall_eq, forall_eq', not_true, not_false_iff, false_implies, Option.some.injEq, reduceCtorEq, exists_eq_left', implies_true, nl_1, nr_1, ix_nI, vpT, r_b_q, u_b_q, r_b_tk, u_b_tk, r_b_lt, u_b_lt, r_b_tm, u_b_tm, r_b_tt, u_b_tt, r_b_at, u_b_at, r_b_qt, u_b_qt, r_b_rt, u_b_rt, r_b_id, u_b_id, r_b_ov, u_b_ov, r_set0, u_set0, r_set1, u_set1, r_set2, u_set2, r_lent, u_lent, r_m1, u_m1, r_m2, u_m2, r_m3, u_m3, r_m4, u_m4, r_m5, u_m5, r_m6, u_m6, r_m7, u_m7, r_ml, u_ml, r_mr, u_mr, r_tc, u_tc, r_tn0, u_tn0, r_tn1, u_tn1, r_tn2, u_tn2, r_tl, u_tl, r_tr, u_tr, r_w0, u_w0, r_w1, u_w1, r_w2, u_w2, r_w3, u_w3, r_w4, u_w4, r_w5, u_w5, r_w6, u_w6, r_w7, u_w7, r_w8, u_w8, r_w9, u_w9, r_wa, u_wa, e1, nI_leI', hle]
          refine ⟨hB.p3 (by omega), c_at (n := inN υ t) (hB.p3 (i := t) (by omega)).o2 (by simp (disch := omega) only [← Nat.add_assoc, true_and, and_true, true_implies, forall_eq, forall_eq', not_true, not_false_iff, false_implies, Option.some.injEq, reduceCtorEq, exists_eq_left', implies_true, nl_1, nr_1, ix_nI, vpT, r_b_q, u_b_q, r_b_tk, u_b_tk, r_b_lt, u_b_lt, r_b_tm, u_b_tm, r_b_tt, u_b_tt, r_b_at, u_b_at, r_b_qt, u_b_qt, r_b_rt, u_b_rt, r_b_id, u_b_id, r_b_ov, u_b_ov, r_set0, u_set0, r_set1, u_set1, r_set2, u_set2, r_lent, u_lent, r_m1, u_m1, r_m2, u_m2, r_m3, u_m3, r_m4, u_m4, r_m5, u_m5, r_m6, u_m6, r_m7, u_m7, r_ml, u_ml, r_mr, u_mr, r_tc, u_tc, r_tn0, u_tn0, r_tn1, u_tn1, r_tn2, u_tn2, r_tl, u_tl, r_tr, u_tr, r_w0, u_w0, r_w1, u_w1, r_w2, u_w2, r_w3, u_w3, r_w4, u_w4, r_w5, u_w5, r_w6, u_w6, r_w7, u_w7, r_w8, u_w8, r_w9, u_w9, r_wa, u_wa, e1]) (by omega) (by omega) ?_⟩
          simp (disch := omega) only [← Nat.add_assoc, true_and, and_true, true_implies, forall_eq, forall_eq', not_true, not_false_iff, false_implies, Option.some.injEq, reduceCtorEq, exists_eq_left', implies_true, nl_1, nr_1, ix_nI, vpT, r_b_q, u_b_q, r_b_tk, u_b_tk, r_b_lt, u_b_lt, r_b_tm, u_b_tm, r_b_tt, u_b_tt, r_b_at, u_b_at, r_b_qt, u_b_qt, r_b_rt, u_b_rt, r_b_id, u_b_id, r_b_ov, u_b_ov, r_set0, u_set0, r_set1, u_set1, r_set2, u_set2, r_lent, u_lent, r_m1, u_m1, r_m2, u_m2, r_m3, u_m3, r_m4, u_m4, r_m5, u_m5, r_m6, u_m6, r_m7, u_m7, r_ml, u_ml, r_mr, u_mr, r_tc, u_tc, r_tn0, u_tn0, r_tn1, u_tn1, r_tn2, u_tn2, r_tl, u_tl, r_tr, u_tr, r_w0, u_w0, r_w1, u_w1, r_w2, u_w2, r_w3, u_w3, r_w4, u_w4, r_w5, u_w5, r_w6, u_w6, r_w7, u_w7, r_w8, u_w8, r_w9, u_w9, r_wa, u_wa, e2]
          refine ⟨hB, c_questionAt hB (A := ix (υ 4)) (by simp (disch := omega) only [← Nat.add_assoc, true_and, and_true, true_implies, forall_eq, forall_eq', not_true, not_false_iff, false_implies, Option.some.injEq, reduceCtorEq, exists_eq_left', implies_true, nl_1, nr_1, ix_nI, vpT, r_b_q, u_b_q, r_b_tk, u_b_tk, r_b_lt, u_b_lt, r_b_tm, u_b_tm, r_b_tt, u_b_tt, r_b_at, u_b_at, r_b_qt, u_b_qt, r_b_rt, u_b_rt, r_b_id, u_b_id, r_b_ov, u_b_ov, r_set0, u_set0, r_set1, u_set1, r_set2, u_set2, r_lent, u_lent, r_m1, u_m1, r_m2, u_m2, r_m3, u_m3, r_m4, u_m4, r_m5, u_m5, r_m6, u_m6, r_m7, u_m7, r_ml, u_ml, r_mr, u_mr, r_tc, u_tc, r_tn0, u_tn0, r_tn1, u_tn1, r_tn2, u_tn2, r_tl, u_tl, r_tr, u_tr, r_w0, u_w0, r_w1, u_w1, r_w2, u_w2, r_w3, u_w3, r_w4, u_w4, r_w5, u_w5, r_w6, u_w6, r_w7, u_w7, r_w8, u_w8, r_w9, u_w9, r_wa, u_wa, e3]) hA q5 ?_⟩
          simp (disch := omega) only [← Nat.add_assoc, true_and, and_true, true_implies, forall_eq, forall_eq', not_true, not_false_iff, false_implies, Option.some.injEq, reduceCtorEq, exists_eq_left', implies_true, nl_1, nr_1, ix_nI, vpT, r_b_q, u_b_q, r_b_tk, u_b_tk, r_b_lt, u_b_lt, r_b_tm, u_b_tm, r_b_tt, u_b_tt, r_b_at, u_b_at, r_b_qt, u_b_qt, r_b_rt, u_b_rt, r_b_id, u_b_id, r_b_ov, u_b_ov, r_set0, u_set0, r_set1, u_set1, r_set2, u_set2, r_lent, u_lent, r_m1, u_m1, r_m2, u_m2, r_m3, u_m3, r_m4, u_m4, r_m5, u_m5, r_m6, u_m6, r_m7, u_m7, r_ml, u_ml, r_mr, u_mr, r_tc, u_tc, r_tn0, u_tn0, r_tn1, u_tn1, r_tn2, u_tn2, r_tl, u_tl, r_tr, u_tr, r_w0, u_w0, r_w1, u_w1, r_w2, u_w2, r_w3, u_w3, r_w4, u_w4, r_w5, u_w5, r_w6, u_w6, r_w7, u_w7, r_w8, u_w8, r_w9, u_w9, r_wa, u_wa, e4, e5, e6, e7]
          refine ⟨hB.p4 (by omega), fun c => ?_, fun c => ⟨fun c2 => ?_, fun c2 => c_useCell hB (by omega) ha ?_⟩⟩
          · rw [if_neg (fun z => c z.1)] at ihe1
            exact ihe1 ρ'' ⟨g1, g2⟩ hm''
          · rw [if_neg (fun z => c2 z.2)] at ihe1
            exact ihe1 ρ'' ⟨g1, g2⟩ hm''
          · rw [if_pos ⟨c, c2⟩] at ihe1
            simp (disch := omega) only [← Nat.add_assoc, true_and, and_true, true_implies, forall_eq, forall_eq', not_true, not_false_iff, false_implies, Option.some.injEq, reduceCtorEq, exists_eq_left', implies_true, nl_1, nr_1, ix_nI, vpT, r_b_q, u_b_q, r_b_tk, u_b_tk, r_b_lt, u_b_lt, r_b_tm, u_b_tm, r_b_tt, u_b_tt, r_b_at, u_b_at, r_b_qt, u_b_qt, r_b_rt, u_b_rt, r_b_id, u_b_id, r_b_ov, u_b_ov, r_set0, u_set0, r_set1, u_set1, r_set2, u_set2, r_lent, u_lent, r_m1, u_m1, r_m2, u_m2, r_m3, u_m3, r_m4, u_m4, r_m5, u_m5, r_m6, u_m6, r_m7, u_m7, r_ml, u_ml, r_mr, u_mr, r_tc, u_tc, r_tn0, u_tn0, r_tn1, u_tn1, r_tn2, u_tn2, r_tl, u_tl, r_tr, u_tr, r_w0, u_w0, r_w1, u_w1, r_w2, u_w2, r_w3, u_w3, r_w4, u_w4, r_w5, u_w5, r_w6, u_w6, r_w7, u_w7, r_w8, u_w8, r_w9, u_w9, r_wa, u_wa, e8, e9]
            refine ihe1 _ ⟨?_, ?_⟩ (((hm''.su (by omega)).su (by omega)).su (by omega))
            · unfold doOn doB doA
              rw [su_n (j := 161 + 11 * lsq υ t k + 3) (by omega), su_n (j := 65 + 24 * t + a) (by omega), su_comm (σ := υ) (a := 161 + 11 * lsq υ t k + 6) (by omega)]
              exact g1.both.both.both
            · refine g2.fr (fun q hq ho => ⟨?_, ?_, ?_⟩)
              · by_cases eq : q = lsq υ t k
                · subst eq; exact q3
                · unfold OnT at ho ⊢
                  rw [doOn_n (by omega) (by omega) (by omega)] at ho
                  exact ho
              · rw [su_n (by omega), su_n (by omega), su_n (by omega)]
              · rw [doOn_n (by omega) (by omega) (by omega)]
      exact inner (inN τ t) 0 (by omega) ρ' hG' hm
  exact key 4 0 rfl ρ hG (Same.rfl' ρ)
end CB
