def putQ (σ : Sr) (q : Nat) (x0 x1 x2 x3 : Int32) : Sr := su (su (su (su (su (su (su (su σ (161 + 11 * q + 0) x0) (161 + 11 * q + 1) x1) (161 + 11 * q + 2) x2) (161 + 11 * q + 3) x3) (161 + 11 * q + 4) 0) (161 + 11 * q + 5) (-5)) (161 + 11 * q + 6) (-5)) (161 + 11 * q + 7) (σ 0)
def putS (σ : Sr) (m A L : Nat) (x1 x2 x3 : Int32) : Sr := su (su (su (su (su (su (putQ σ A (nI m) x1 x2 x3) (161 + 11 * A + 8) (-5)) (161 + 11 * A + 9) 0) (161 + 11 * A + 10) 0) (21 + 11 * m + 1 + L) (nI A)) (21 + 11 * m + 0) (nI (L + 1))) 4 (nI (A + 1))
def putC (σ : Sr) (m A L : Nat) (x1 x2 x3 : Int32) : Sr := su (su (su (su (su (su (putQ σ A (nI m) x1 x2 x3) (161 + 11 * A + 10) (-5)) (161 + 11 * A + 8) (-5)) (161 + 11 * A + 9) 0) 4 (nI (A + 1))) (21 + 11 * m + 1 + L) (nI A)) (21 + 11 * m + 0) (nI (L + 1))
section PT
variable {K : MK} {R : MR} {I J : MI} {t r b : Nat} {S : St} {σ ρ : Sr} {m A L : Nat} {x1 x2 x3 : Int32}
theorem putQ_n {s : Nat} (h : s < 161 + 11 * A ∨ 161 + 11 * A + 8 ≤ s) : putQ σ A (nI m) x1 x2 x3 s = σ s := by
  unfold putQ
  rw [su_n (by omega), su_n (by omega), su_n (by omega), su_n (by omega), su_n (by omega), su_n (by omega), su_n (by omega), su_n (by omega)]
theorem putS_n {s : Nat} (h : s < 161 + 11 * A ∨ 161 + 11 * A + 11 ≤ s) (h1 : s ≠ 4 ∧ s ≠ 21 + 11 * m + 0 ∧ s ≠ 21 + 11 * m + 1 + L) : putS σ m A L x1 x2 x3 s = σ s := by
  unfold putS
  rw [su_n (by omega), su_n (by omega), su_n (by omega), su_n (by omega), su_n (by omega), su_n (by omega), putQ_n (by omega)]
theorem putC_n {s : Nat} (h : s < 161 + 11 * A ∨ 161 + 11 * A + 11 ≤ s) (h1 : s ≠ 4 ∧ s ≠ 21 + 11 * m + 0 ∧ s ≠ 21 + 11 * m + 1 + L) : putC σ m A L x1 x2 x3 s = σ s := by
  unfold putC
  rw [su_n (by omega), su_n (by omega), su_n (by omega), su_n (by omega), su_n (by omega), su_n (by omega), putQ_n (by omega)]
theorem putS_w (hm : m < 4) (hL : L < 6) {w : Nat} (hw : w < 8) : putS σ m A L x1 x2 x3 (161 + 11 * A + w) = putQ σ A (nI m) x1 x2 x3 (161 + 11 * A + w) := by
  unfold putS
  rw [su_n (by omega), su_n (by omega), su_n (by omega), su_n (by omega), su_n (by omega), su_n (by omega)]
theorem putC_w (hm : m < 4) (hL : L < 6) {w : Nat} (hw : w < 8) : putC σ m A L x1 x2 x3 (161 + 11 * A + w) = putQ σ A (nI m) x1 x2 x3 (161 + 11 * A + w) := by
  unfold putC
  rw [su_n (by omega), su_n (by omega), su_n (by omega), su_n (by omega), su_n (by omega), su_n (by omega)]
theorem putQ_w0 : putQ σ A (nI m) x1 x2 x3 (161 + 11 * A + 0) = nI m := by
  unfold putQ
  rw [su_n (by omega), su_n (by omega), su_n (by omega), su_n (by omega), su_n (by omega), su_n (by omega), su_n (by omega), su_s]
theorem putQ_w1 : putQ σ A (nI m) x1 x2 x3 (161 + 11 * A + 1) = x1 := by
  unfold putQ
  rw [su_n (by omega), su_n (by omega), su_n (by omega), su_n (by omega), su_n (by omega), su_n (by omega), su_s]
theorem putQ_w2 : putQ σ A (nI m) x1 x2 x3 (161 + 11 * A + 2) = x2 := by
  unfold putQ
  rw [su_n (by omega), su_n (by omega), su_n (by omega), su_n (by omega), su_n (by omega), su_s]
theorem putQ_w4 : putQ σ A (nI m) x1 x2 x3 (161 + 11 * A + 4) = 0 := by
  unfold putQ
  rw [su_n (by omega), su_n (by omega), su_n (by omega), su_s]
theorem putQ_eq (h0 : ρ 0 = σ 0) {w : Nat} (hw : w < 8) : putQ ρ A (nI m) x1 x2 x3 (161 + 11 * A + w) = putQ σ A (nI m) x1 x2 x3 (161 + 11 * A + w) := by
  unfold putQ
  rw [h0]
  have : w = 0 ∨ w = 1 ∨ w = 2 ∨ w = 3 ∨ w = 4 ∨ w = 5 ∨ w = 6 ∨ w = 7 := by omega
  rcases this with rfl | rfl | rfl | rfl | rfl | rfl | rfl | rfl <;> simp (disch := omega) only [su_s, su_n]
theorem put_rel (hR : RelB ρ σ) (hA : ix (σ 4) = A) (hA2 : A < 200) (hm : m < 4) (hL : loN σ m = L) (hL6 : L < 6) (ht : ∃ t, t < 4 ∧ x1 = nI t) (ha : ∃ a, a < 16 ∧ x2 = nI a) : RelB (putC ρ m A L x1 x2 x3) (putS σ m A L x1 x2 x3) := by
  obtain ⟨hS, hM, ⟨g1, g2⟩, hLT, hC⟩ := hR
  rw [hA] at g1 g2
  obtain ⟨hr6, er, hrow⟩ := hS.rows hm
  rw [hL] at er hrow
  have hS0 := hS
  have hn : ∀ s, (s < 161 + 11 * A ∨ 161 + 11 * A + 11 ≤ s) → (s ≠ 4 ∧ s ≠ 21 + 11 * m + 0 ∧ s ≠ 21 + 11 * m + 1 + L) → putS σ m A L x1 x2 x3 s = σ s := fun s a c => putS_n a c
  have hc : ∀ s, (s < 161 + 11 * A ∨ 161 + 11 * A + 11 ≤ s) → (s ≠ 4 ∧ s ≠ 21 + 11 * m + 0 ∧ s ≠ 21 + 11 * m + 1 + L) → putC ρ m A L x1 x2 x3 s = ρ s := fun s a c => putC_n a c
  have s4 : putS σ m A L x1 x2 x3 4 = nI (A + 1) := by unfold putS; rw [su_s]
  have sl : putS σ m A L x1 x2 x3 (21 + 11 * m + 0) = nI (L + 1) := by unfold putS; rw [su_n (by omega), su_s]
  have sr : putS σ m A L x1 x2 x3 (21 + 11 * m + 1 + L) = nI A := by unfold putS; rw [su_n (by omega), su_n (by omega), su_s]
  have c4 : putC ρ m A L x1 x2 x3 4 = nI (A + 1) := by unfold putC; rw [su_n (by omega), su_n (by omega), su_s]
  have cl : putC ρ m A L x1 x2 x3 (21 + 11 * m + 0) = nI (L + 1) := by unfold putC; rw [su_s]
  have cr : putC ρ m A L x1 x2 x3 (21 + 11 * m + 1 + L) = nI A := by unfold putC; rw [su_n (by omega), su_s]
  have w0 : putS σ m A L x1 x2 x3 (161 + 11 * A + 0) = nI m := by rw [putS_w hm hL6 (by omega), putQ_w0]
  have w4 : putS σ m A L x1 x2 x3 (161 + 11 * A + 4) = 0 := by rw [putS_w hm hL6 (by omega), putQ_w4]
  have e4 : ix (putS σ m A L x1 x2 x3 4) = A + 1 := ix_eq s4 (by omega)
  refine ⟨?_, by rw [hn 2 (by omega) (by omega)]; exact hM, ⟨?_, ?_⟩, by rw [hn 5 (by omega) (by omega), hc 5 (by omega) (by omega)]; exact hLT, ?_⟩
  · obtain ⟨T, A', a1, a2, a3, a4, a5, a6, a7, a8, a9, a10, a11⟩ := hS
    have hAA : A' = A := by rw [← hA, ix_eq a4 (by omega)]
    subst hAA
    refine ⟨T, A' + 1, by rw [hn _ (by omega) (by omega)]; exact a1, a2, a3, s4, by omega, by rw [hn _ (by omega) (by omega)]; exact a6, by rw [hn _ (by omega) (by omega)]; exact a7, fun k hk => (a8 k hk).fr (hn _ (by omega) (by omega)) (by omega), fun m' hm' => ?_, fun t ht => (a10 t ht).fr (fun w hw' => hn _ (by omega) (by omega)) (fun n j q k g0 g1 g2 g3 g4 g5 g6 g7 g8 => ⟨by unfold OnT at g5 ⊢; rw [hn _ (by omega) (by omega)]; exact g5, hn _ (by omega) (by omega), hn _ (by omega) (by omega), hn _ (by omega) (by omega)⟩) (by omega), fun q hq => ?_⟩
    · by_cases e : m' = m
      · subst e
        refine ⟨L + 1, by omega, sl, fun j hj => ?_⟩
        by_cases ej : j = L
        · subst ej
          refine ⟨A', by omega, sr, w4, w0, fun i hi => ?_⟩
          obtain ⟨q1, q2, q3, -⟩ := hrow i hi
          rw [hn _ (by omega) (by omega), q3]
          intro z
          have := nI_inj (by omega) (by omega) z
          omega
        · obtain ⟨q1, q2, q3, q4, q5, q6, q7⟩ := hrow j (by omega)
          refine ⟨rwq σ m' j, by omega, by rw [hn _ (by omega) (by omega)]; exact q3, by rw [hn _ (by omega) (by omega)]; exact q4, by rw [hn _ (by omega) (by omega)]; exact q5, fun i hi => ?_⟩
          rw [hn _ (by omega) (by omega)]
          exact q7 i hi
      · exact (a9 m' hm').fr (fun w hw' => hn _ (by omega) (by omega)) (fun L' j q g0 g1 g2 g3 g4 g5 => ⟨by rw [hn _ (by omega) (by omega)]; exact g5, hn _ (by omega) (by omega)⟩) (by omega)
    · by_cases e : q = A'
      · subst e
        obtain ⟨t, ht, et⟩ := ht
        obtain ⟨a, ha, ea⟩ := ha
        exact ⟨⟨m, hm, w0⟩, ⟨t, ht, by rw [putS_w hm hL6 (by omega), putQ_w1]; exact et⟩, a, ha, by rw [putS_w hm hL6 (by omega), putQ_w2]; exact ea⟩
      · exact (a11 q (by omega)).fr (fun w hw' => hn _ (by omega) (by omega))
  · rw [e4]
    intro k h1 h2 h3
    by_cases k4 : k = 4
    · subst k4; rw [s4, c4]
    · by_cases kl : k = 21 + 11 * m + 0
      · subst kl; rw [sl, cl]
      · by_cases kr : k = 21 + 11 * m + 1 + L
        · subst kr; rw [sr, cr]
        · by_cases kA : k < 161 + 11 * A
          · rw [hn k (by omega) (by omega), hc k (by omega) (by omega)]
            exact g1 k kA h2 h3
          · have hw : k = 161 + 11 * A + (k - (161 + 11 * A)) := by omega
            have hw10 : k - (161 + 11 * A) < 10 := by omega
            generalize k - (161 + 11 * A) = w at *
            subst hw
            by_cases w8 : w < 8
            · rw [putS_w hm hL6 w8, putC_w hm hL6 w8]
              exact putQ_eq (g1 0 (by omega) (by omega) (by omega)) w8
            · have : w = 8 ∨ w = 9 := by omega
              unfold putS putC
              rcases this with rfl | rfl
              · rw [su_n (by omega), su_n (by omega), su_n (by omega), su_n (by omega), su_s, su_n (by omega), su_n (by omega), su_n (by omega), su_n (by omega), su_n (by omega), su_s]
              · rw [su_n (by omega), su_n (by omega), su_n (by omega), su_s, su_n (by omega), su_n (by omega), su_n (by omega), su_n (by omega), su_s]
  · rw [e4]
    intro q hq ho
    by_cases e : q = A
    · subst e
      unfold OnT at ho
      rw [w4] at ho
      rcases ho with ho | ho <;> exact absurd ho (by decide)
    · rw [hn _ (by omega) (by omega), hc _ (by omega) (by omega)]
      refine g2 q (by omega) ?_
      unfold OnT at ho ⊢
      rw [hn _ (by omega) (by omega)] at ho
      exact ho
  · intro m' hm'
    obtain ⟨c1, c2, c3⟩ := hC m' hm'
    have hb : ∀ q, q < A → ansB3 (putS σ m A L x1 x2 x3) m' q = ansB3 σ m' q := fun q hq => ansB3_fr (hn _ (by omega) (by omega)) (by rw [hn _ (by omega) (by omega)])
    have hbA : ansB3 (putS σ m A L x1 x2 x3) m' A = false := by unfold ansB3; rw [w4]; simp
    have hlo : lonL (putS σ m A L x1 x2 x3) m' (A + 1) = lonL (putS σ m A L x1 x2 x3) m' A := by
      show (if ansB3 (putS σ m A L x1 x2 x3) m' A = true ∧ _ then _ else _) = _
      rw [if_neg (fun z => by rw [hbA] at z; exact absurd z.1 (by decide))]
    refine ⟨?_, ?_, ?_⟩
    · rw [hc _ (by omega) (by omega), c1, holdsN_fr hS0 (hn _ (by omega) (by omega)) (fun k hk => hn _ (by omega) (by omega)) (fun q hq => hn _ (by omega) (by omega))]
    · rw [hc _ (by omega) (by omega), c2]
      unfold ansN
      rw [e4, cnt_f hbA, hA, cnt_congr _ hb]
    · rw [hc _ (by omega) (by omega), c3, e4, hlo, hA]
      exact (lonL_congr _ (fun q hq => ⟨hb q hq, fun _ => hn _ (by omega) (by omega)⟩)).symm
theorem put_wok (hW : WOK σ) (hA : ix (σ 4) = A) (hA2 : A < 200) (hm : m < 4) (hL6 : L < 6) : WOK (putS σ m A L x1 x2 x3) := by
  intro q hq
  have s4 : putS σ m A L x1 x2 x3 4 = nI (A + 1) := by unfold putS; rw [su_s]
  rw [ix_eq s4 (by omega)] at hq
  by_cases e : q = A
  · subst e
    exact Or.inl (by rw [putS_w hm hL6 (by omega), putQ_w4])
  · rw [putS_n (by omega) (by omega)]
    exact hW q (by omega)
theorem c_put {Q : Int32 → MI → Prop} (hB : IsBus K R b) (hR : RelB ρ σ) (hA : ix (σ 4) = A) (hA2 : A < 200) (hm : m < 4) (hL : loN σ m = L) (hL6 : L < 6) (ht : ∃ t, t < 4 ∧ x1 = nI t) (ha : ∃ a, a < 16 ∧ x2 = nI a) (h : ∀ ρ', RelB ρ' (putS σ m A L x1 x2 x3) → Q (nI A) (stB J b ρ')) : w_X0_put K R b (nI m) x1 x2 x3 (stB J b ρ) Q := by
  have key := h _ (put_rel (x3 := x3) hR hA hA2 hm hL hL6 ht ha)
  have hS := hR.1
  have g1 := hR.2.2.1.1
  obtain ⟨hA4, -⟩ := hS.A4
  obtain ⟨-, er, -⟩ := hS.rows hm
  have e4 : ρ 4 = nI A := by rw [g1 4 (by omega) (by omega) (by omega), hA4, hA]
  have el : ρ (21 + 11 * m + 0) = nI L := by rw [g1 _ (by omega) (by omega) (by omega), er, hL]
  unfold w_X0_put
  refine ⟨hB, c_masterAt hB hm ⟨fun z => (by cases z), fun r4 e => ?_⟩⟩
  cases e
  rw [r_b_q, e4]
  refine c_idx1 (n := 200) hA2 (by decide) ⟨fun _ => ?_, fun z => absurd z z10⟩
  rw [r_b_q, e4, ix_nI (by omega)]
  unfold w_X3_begin
  simp (disch := omega) only [← Nat.add_assoc, true_and, and_true, true_implies, forall_eq, forall_eq', not_true, not_false_iff, false_implies, Option.some.injEq, reduceCtorEq, exists_eq_left', implies_true, nl_1, nr_1, ix_nI, vpT, r_b_q, u_b_q, r_b_tk, u_b_tk, r_b_lt, u_b_lt, r_b_tm, u_b_tm, r_b_tt, u_b_tt, r_b_at, u_b_at, r_b_qt, u_b_qt, r_b_rt, u_b_rt, r_b_id, u_b_id, r_b_ov, u_b_ov, r_set0, u_set0, r_set1, u_set1, r_set2, u_set2, r_lent, u_lent, r_m1, u_m1, r_m2, u_m2, r_m3, u_m3, r_m4, u_m4, r_m5, u_m5, r_m6, u_m6, r_m7, u_m7, r_ml, u_ml, r_mr, u_mr, r_tc, u_tc, r_tn0, u_tn0, r_tn1, u_tn1, r_tn2, u_tn2, r_tl, u_tl, r_tr, u_tr, r_w0, u_w0, r_w1, u_w1, r_w2, u_w2, r_w3, u_w3, r_w4, u_w4, r_w5, u_w5, r_w6, u_w6, r_w7, u_w7, r_w8, u_w8, r_w9, u_w9, r_wa, u_wa, su_n, su_s, e4]
  refine ⟨hB.p4 (by omega), hB.p2 hm, ?_⟩
  unfold w_X1_append w_X1_append_b32
  simp (disch := omega) only [← Nat.add_assoc, true_and, and_true, true_implies, forall_eq, forall_eq', not_true, not_false_iff, false_implies, Option.some.injEq, reduceCtorEq, exists_eq_left', implies_true, nl_1, nr_1, ix_nI, vpT, r_b_q, u_b_q, r_b_tk, u_b_tk, r_b_lt, u_b_lt, r_b_tm, u_b_tm, r_b_tt, u_b_tt, r_b_at, u_b_at, r_b_qt, u_b_qt, r_b_rt, u_b_rt, r_b_id, u_b_id, r_b_ov, u_b_ov, r_set0, u_set0, r_set1, u_set1, r_set2, u_set2, r_lent, u_lent, r_m1, u_m1, r_m2, u_m2, r_m3, u_m3, r_m4, u_m4, r_m5, u_m5, r_m6, u_m6, r_m7, u_m7, r_ml, u_ml, r_mr, u_mr, r_tc, u_tc, r_tn0, u_tn0, r_tn1, u_tn1, r_tn2, u_tn2, r_tl, u_tl, r_tr, u_tr, r_w0, u_w0, r_w1, u_w1, r_w2, u_w2, r_w3, u_w3, r_w4, u_w4, r_w5, u_w5, r_w6, u_w6, r_w7, u_w7, r_w8, u_w8, r_w9, u_w9, r_wa, u_wa, su_n, su_s, el]
  refine ⟨(hB.p2 (i := m) hm).o0, c_idx1 (n := 6) hL6 (by decide) ⟨fun c => absurd c z10, fun _ => ?_⟩⟩
  simp (disch := omega) only [← Nat.add_assoc, true_and, and_true, true_implies, forall_eq, forall_eq', not_true, not_false_iff, false_implies, Option.some.injEq, reduceCtorEq, exists_eq_left', implies_true, nl_1, nr_1, ix_nI, vpT, r_b_q, u_b_q, r_b_tk, u_b_tk, r_b_lt, u_b_lt, r_b_tm, u_b_tm, r_b_tt, u_b_tt, r_b_at, u_b_at, r_b_qt, u_b_qt, r_b_rt, u_b_rt, r_b_id, u_b_id, r_b_ov, u_b_ov, r_set0, u_set0, r_set1, u_set1, r_set2, u_set2, r_lent, u_lent, r_m1, u_m1, r_m2, u_m2, r_m3, u_m3, r_m4, u_m4, r_m5, u_m5, r_m6, u_m6, r_m7, u_m7, r_ml, u_ml, r_mr, u_mr, r_tc, u_tc, r_tn0, u_tn0, r_tn1, u_tn1, r_tn2, u_tn2, r_tl, u_tl, r_tr, u_tr, r_w0, u_w0, r_w1, u_w1, r_w2, u_w2, r_w3, u_w3, r_w4, u_w4, r_w5, u_w5, r_w6, u_w6, r_w7, u_w7, r_w8, u_w8, r_w9, u_w9, r_wa, u_wa, su_n, su_s, el]
  unfold putC putQ at key
  exact key
end PT
