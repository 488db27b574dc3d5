section GT
variable {K : MK} {R : MR} {I J : MI} {t r b : Nat} {S : St}
def dnB (σ : Sr) (t j : Nat) : Bool := σ (161 + 11 * lsq σ t j + 4) == 2
theorem r_doneIn {Q : Int32 → MI → Prop} {m : Nat} (hR : RT K R r I S) (hS : InvS S.σ) (hm : m < 4) (h : Q (nI (cnt (dnB S.σ m) (inN S.σ m))) I) : w_X7_doneIn K R r (nI m) I Q := by
  obtain ⟨hn, en, hj⟩ := hS.lists hm
  have hM := hR.1
  have er : ∀ k, I (r + 1) k = S.σ k := fun k => by rw [hR.2.1]
  unfold w_X7_doneIn w_X7_doneIn_b4
  intro X hX
  have key : ∀ d k, k + d = inN S.σ m → X (nI (cnt (dnB S.σ m) k)) (nI k) I := by
    intro d
    induction d with
    | zero =>
      intro k hk
      refine hX _ _ _ ?_
      have hle : inN S.σ m ≤ k := by omega
      have hk2 : k = inN S.σ m := by omega
      unfold w_X7_doneIn_b4_body
      simp (disch := omega) only [ofT_l19, vpT, ix_nI, er, en, nI_leI', hle, true_and, true_implies, not_true, false_implies, and_true]
      rw [hk2]
      exact ⟨hM, h⟩
    | succ d ih =>
      intro k hk
      refine hX _ _ _ ?_
      have hle : ¬ inN S.σ m ≤ k := by omega
      obtain ⟨q1, q2, -⟩ := hj k (by omega)
      have ih1 := ih (k + 1) (by omega)
      unfold w_X7_doneIn_b4_body w_X7_doneIn_b51
      simp (disch := omega) only [ofT_l19, ofT_n, nl_20, vpT, ix_nI, er, en, nI_leI', hle, true_and, not_false_iff, true_implies, false_implies, ← Nat.add_assoc, q2, of_l4, nr_1]
      refine ⟨hM, fun c => ?_, fun c => ?_⟩
      · have hb : dnB S.σ m k = false := beq_eq_false_iff_ne.mpr c
        rw [cnt_f hb] at ih1
        rw [i32_add0]
        exact ih1
      · have hb : dnB S.σ m k = true := by unfold dnB; rw [c]; rfl
        rw [cnt_t hb] at ih1
        exact ih1
  exact key (inN S.σ m) 0 (by omega)
theorem c_doneIn {Q : Int32 → MI → Prop} {m : Nat} {ρ σ : Sr} (hB : IsBus K R b) (hS : InvS σ) (hG : AgD ρ σ) (hm : m < 4) (h : Q (nI (cnt (dnB σ m) (inN σ m))) (stB J b ρ)) : w_X0_doneIn K R b (some (b + 18 + 5 * m)) (stB J b ρ) Q := by
  obtain ⟨hn, en, hj⟩ := hS.lists hm
  obtain ⟨g1, g2⟩ := hG
  obtain ⟨hA4, hA⟩ := hS.A4
  have e1 : ρ (65 + 24 * m + 19) = nI (inN σ m) := by rw [g1 _ (by omega) (by omega) (by omega)]; exact en
  have e3 : ρ 4 = nI (ix (σ 4)) := by rw [g1 4 (by omega) (by omega) (by omega)]; exact hA4
  unfold w_X0_doneIn w_X0_doneIn_b4
  intro X hX
  have key : ∀ d k, k + d = inN σ m → X (nI (cnt (dnB σ m) k)) (nI k) (stB J b ρ) := by
    intro d
    induction d with
    | zero =>
      intro k hk
      refine hX _ _ _ ?_
      have hle : inN σ m ≤ k := by omega
      have hk2 : k = inN σ m := by omega
      unfold w_X0_doneIn_b4_body
      simp (disch := omega) only [← Nat.add_assoc, true_and, and_true, true_implies, forall_eq, forall_eq', not_true, not_false_iff, false_implies, Option.some.injEq, reduceCtorEq, exists_eq_left', implies_true, nl_1, nr_1, ix_nI, vpT, r_b_q, u_b_q, r_b_tk, u_b_tk, r_b_lt, u_b_lt, r_b_tm, u_b_tm, r_b_tt, u_b_tt, r_b_at, u_b_at, r_b_qt, u_b_qt, r_b_rt, u_b_rt, r_b_id, u_b_id, r_b_ov, u_b_ov, r_set0, u_set0, r_set1, u_set1, r_set2, u_set2, r_lent, u_lent, r_m1, u_m1, r_m2, u_m2, r_m3, u_m3, r_m4, u_m4, r_m5, u_m5, r_m6, u_m6, r_m7, u_m7, r_ml, u_ml, r_mr, u_mr, r_tc, u_tc, r_tn0, u_tn0, r_tn1, u_tn1, r_tn2, u_tn2, r_tl, u_tl, r_tr, u_tr, r_w0, u_w0, r_w1, u_w1, r_w2, u_w2, r_w3, u_w3, r_w4, u_w4, r_w5, u_w5, r_w6, u_w6, r_w7, u_w7, r_w8, u_w8, r_w9, u_w9, r_wa, u_wa, e1, nI_leI', hle]
      rw [hk2]
      exact ⟨hB.p3 hm, h⟩
    | succ d ih =>
      intro k hk
      refine hX _ _ _ ?_
      have hle : ¬ inN σ m ≤ k := by omega
      obtain ⟨q1, q2, -⟩ := hj k (by omega)
      have q5 := (hS.lists2 hm (j := k) (by omega)).1
      have ih1 := ih (k + 1) (by omega)
      have e2 : ρ (65 + 24 * m + 20 + k) = nI (lsq σ m k) := by rw [g1 _ (by omega) (by omega) (by omega)]; exact q2
      have e5 := g1.d q5 (w := 4) (by omega)
      unfold w_X0_doneIn_b4_body w_X0_doneIn_b46
      simp (disch := omega) only [← Nat.add_assoc, true_and, and_true, true_implies, forall_eq, forall_eq', not_true, not_false_iff, false_implies, Option.some.injEq, reduceCtorEq, exists_eq_left', implies_true, nl_1, nr_1, ix_nI, vpT, r_b_q, u_b_q, r_b_tk, u_b_tk, r_b_lt, u_b_lt, r_b_tm, u_b_tm, r_b_tt, u_b_tt, r_b_at, u_b_at, r_b_qt, u_b_qt, r_b_rt, u_b_rt, r_b_id, u_b_id, r_b_ov, u_b_ov, r_set0, u_set0, r_set1, u_set1, r_set2, u_set2, r_lent, u_lent, r_m1, u_m1, r_m2, u_m2, r_m3, u_m3, r_m4, u_m4, r_m5, u_m5, r_m6, u_m6, r_m7, u_m7, r_ml, u_ml, r_mr, u_mr, r_tc, u_tc, r_tn0, u_tn0, r_tn1, u_tn1, r_tn2, u_tn2, r_tl, u_tl, r_tr, u_tr, r_w0, u_w0, r_w1, u_w1, r_w2, u_w2, r_w3, u_w3, r_w4, u_w4, r_w5, u_w5, r_w6, u_w6, r_w7, u_w7, r_w8, u_w8, r_w9, u_w9, r_wa, u_wa, e1, nI_leI', hle]
      refine ⟨hB.p3 hm, c_at (n := inN σ m) (hB.p3 (i := m) hm).o2 (by simp (disch := omega) only [← Nat.add_assoc, true_and, and_true, true_implies, forall_eq, forall_eq', not_true, not_false_iff, false_implies, Option.some.injEq, reduceCtorEq, exists_eq_left', implies_true, nl_1, nr_1, ix_nI, vpT, r_b_q, u_b_q, r_b_tk, u_b_tk, r_b_lt, u_b_lt, r_b_tm, u_b_tm, r_b_tt, u_b_tt, r_b_at, u_b_at, r_b_qt, u_b_qt, r_b_rt, u_b_rt, r_b_id, u_b_id, r_b_ov, u_b_ov, r_set0, u_set0, r_set1, u_set1, r_set2, u_set2, r_lent, u_lent, r_m1, u_m1, r_m2, u_m2, r_m3, u_m3, r_m4, u_m4, r_m5, u_m5, r_m6, u_m6, r_m7, u_m7, r_ml, u_ml, r_mr, u_mr, r_tc, u_tc, r_tn0, u_tn0, r_tn1, u_tn1, r_tn2, u_tn2, r_tl, u_tl, r_tr, u_tr, r_w0, u_w0, r_w1, u_w1, r_w2, u_w2, r_w3, u_w3, r_w4, u_w4, r_w5, u_w5, r_w6, u_w6, r_w7, u_w7, r_w8, u_w8, r_w9, u_w9, r_wa, u_wa, e1]) (by omega) (by omega) ?_⟩
      simp (disch := omega) only [← Nat.add_assoc, true_and, and_true, true_implies, forall_eq, forall_eq', not_true, not_false_iff, false_implies, Option.some.injEq, reduceCtorEq, exists_eq_left', implies_true, nl_1, nr_1, ix_nI, vpT, r_b_q, u_b_q, r_b_tk, u_b_tk, r_b_lt, u_b_lt, r_b_tm, u_b_tm, r_b_tt, u_b_tt, r_b_at, u_b_at, r_b_qt, u_b_qt, r_b_rt, u_b_rt, r_b_id, u_b_id, r_b_ov, u_b_ov, r_set0, u_set0, r_set1, u_set1, r_set2, u_set2, r_lent, u_lent, r_m1, u_m1, r_m2, u_m2, r_m3, u_m3, r_m4, u_m4, r_m5, u_m5, r_m6, u_m6, r_m7, u_m7, r_ml, u_ml, r_mr, u_mr, r_tc, u_tc, r_tn0, u_tn0, r_tn1, u_tn1, r_tn2, u_tn2, r_tl, u_tl, r_tr, u_tr, r_w0, u_w0, r_w1, u_w1, r_w2, u_w2, r_w3, u_w3, r_w4, u_w4, r_w5, u_w5, r_w6, u_w6, r_w7, u_w7, r_w8, u_w8, r_w9, u_w9, r_wa, u_wa, e2]
      refine ⟨hB, c_questionAt hB (A := ix (σ 4)) (by simp (disch := omega) only [← Nat.add_assoc, true_and, and_true, true_implies, forall_eq, forall_eq', not_true, not_false_iff, false_implies, Option.some.injEq, reduceCtorEq, exists_eq_left', implies_true, nl_1, nr_1, ix_nI, vpT, r_b_q, u_b_q, r_b_tk, u_b_tk, r_b_lt, u_b_lt, r_b_tm, u_b_tm, r_b_tt, u_b_tt, r_b_at, u_b_at, r_b_qt, u_b_qt, r_b_rt, u_b_rt, r_b_id, u_b_id, r_b_ov, u_b_ov, r_set0, u_set0, r_set1, u_set1, r_set2, u_set2, r_lent, u_lent, r_m1, u_m1, r_m2, u_m2, r_m3, u_m3, r_m4, u_m4, r_m5, u_m5, r_m6, u_m6, r_m7, u_m7, r_ml, u_ml, r_mr, u_mr, r_tc, u_tc, r_tn0, u_tn0, r_tn1, u_tn1, r_tn2, u_tn2, r_tl, u_tl, r_tr, u_tr, r_w0, u_w0, r_w1, u_w1, r_w2, u_w2, r_w3, u_w3, r_w4, u_w4, r_w5, u_w5, r_w6, u_w6, r_w7, u_w7, r_w8, u_w8, r_w9, u_w9, r_wa, u_wa, e3]) hA q5 ?_⟩
      simp (disch := omega) only [← Nat.add_assoc, true_and, and_true, true_implies, forall_eq, forall_eq', not_true, not_false_iff, false_implies, Option.some.injEq, reduceCtorEq, exists_eq_left', implies_true, nl_1, nr_1, ix_nI, vpT, r_b_q, u_b_q, r_b_tk, u_b_tk, r_b_lt, u_b_lt, r_b_tm, u_b_tm, r_b_tt, u_b_tt, r_b_at, u_b_at, r_b_qt, u_b_qt, r_b_rt, u_b_rt, r_b_id, u_b_id, r_b_ov, u_b_ov, r_set0, u_set0, r_set1, u_set1, r_set2, u_set2, r_lent, u_lent, r_m1, u_m1, r_m2, u_m2, r_m3, u_m3, r_m4, u_m4, r_m5, u_m5, r_m6, u_m6, r_m7, u_m7, r_ml, u_ml, r_mr, u_mr, r_tc, u_tc, r_tn0, u_tn0, r_tn1, u_tn1, r_tn2, u_tn2, r_tl, u_tl, r_tr, u_tr, r_w0, u_w0, r_w1, u_w1, r_w2, u_w2, r_w3, u_w3, r_w4, u_w4, r_w5, u_w5, r_w6, u_w6, r_w7, u_w7, r_w8, u_w8, r_w9, u_w9, r_wa, u_wa, e5]
      refine ⟨hB.p4 (by omega), fun c => ?_, fun c => ?_⟩
      · have hb : dnB σ m k = false := beq_eq_false_iff_ne.mpr c
        rw [cnt_f hb] at ih1
        exact ih1
      · have hb : dnB σ m k = true := by unfold dnB; rw [c]; rfl
        rw [cnt_t hb] at ih1
        exact ih1
  exact key (inN σ m) 0 (by omega)
theorem r_answeringT {Q : Int32 → MI → Prop} {m : Nat} (hR : RT K R r I S) (hS : InvS S.σ) (hm : m < 4) (h : Q (oI (ansO S.σ m)) I) : w_X7_answering K R r (nI m) I Q := by
  have e : stS I r S.σ = I := by rw [← hR.2.1, stS_self]
  have := ref_answering (I := I) (Q := Q) hR.1 hS hm (by rw [e]; exact h)
  rw [e] at this
  exact this
theorem p_target {G : Int32 → Int32 → MI → Prop} {x y : Int32} (hC : CT K R t I S) (hR : RT K R r I S) (hG : ∀ v, G v v I) : w_X6_target K R t x y I (fun v I1 => w_X7_target K R r x y I1 (fun v' I2 => G v v' I2)) := by
  have hT := hC.1
  have hB := hT.o0
  have hS := hC.2.1.1
  have hM := hR.1
  have er : ∀ k, I (r + 1) k = S.σ k := fun k => by rw [hR.2.1]
  unfold w_X6_target
  refine ⟨hT, ?_⟩
  rcases Gt_or (n := 4) x with ⟨m, hm, rfl⟩ | hx
  · refine c_targetAt hB hm ⟨fun z => (by cases z), fun r4 e4 => ?_⟩
    cases e4
    have hMs := hB.p3 (i := m) hm
    obtain ⟨hn, en, hj⟩ := hS.lists hm
    have rd : ∀ j, j < 3 → I (t + 1 + 18 + 5 * m + 2) j = S.σ (65 + 24 * m + 16 + j) := fun j hj => hC.rd (so_tn m hm j hj) (by omega) (by omega) (by omega) (by omega)
    have e3 : I (t + 1 + 18 + 5 * m + 3) 1 = S.σ (65 + 24 * m + 19) := hC.rd (so_tl m hm) (by omega) (by omega) (by omega) (by omega)
    have start : ∀ (V x2 : Int32), ((x2 = (0:Int32) → G V (S.σ (65 + 24 * m + 16 + 0)) I) ∧ (x2 = (1:Int32) → G V (S.σ (65 + 24 * m + 16 + 1)) I) ∧ (x2 = (2:Int32) → G V (S.σ (65 + 24 * m + 16 + 2)) I) ∧ (x2 = (3:Int32) → G V (S.σ (65 + 24 * m + 19)) I) ∧ (x2 = (4:Int32) → G V (nI (cnt (dnB S.σ m) (inN S.σ m))) I) ∧ (x2 = (5:Int32) → G V (match ansO S.σ m with | some p => nI (lsq S.σ m p) | none => -5) I) ∧ (x2.toInt < 0 ∨ 5 < x2.toInt → G V (-2) I)) → w_X7_target K R r (nI m) x2 I (fun v' I2 => G V v' I2) := by
      intro V x2 h
      obtain ⟨h0, h1, h2, h3, h4, h5, h9⟩ := h
      unfold w_X7_target w_X7_target_b48 w_X7_target_b98
      have b48 : ∀ k : Nat, k < 4 → G V (S.σ (65 + 24 * m + 16 + k)) I → w_X7_ofTarget K R (nI m) (16 + nI k) I (fun v3 I2 => vp_in v3 2361 ∧ (fun v' I2 => G V v' I2) (I2 (r + 1) (ix v3)) I2) := fun k hk hg => by
        rw [nl_16, ofT_n, ix_nI (by omega), er]
        refine ⟨vp_in_nI (by omega) (by decide), ?_⟩
        rw [← Nat.add_assoc]
        exact hg
      refine r_port1 hm ⟨fun _ => ⟨fun e => ⟨hM, ?_⟩, fun e => ⟨hM, ?_⟩, fun e => ⟨hM, ?_⟩, fun e => ⟨hM, ?_⟩, fun e => ⟨hM, r_doneIn hR hS hm (h4 e)⟩, fun e => ⟨hM, r_answeringT hR hS hm ?_⟩, h9⟩, fun z => absurd z z10⟩
      · subst e; exact b48 0 (by omega) (h0 rfl)
      · subst e; exact b48 1 (by omega) (h1 rfl)
      · subst e; exact b48 2 (by omega) (h2 rfl)
      · subst e; exact b48 3 (by omega) (h3 rfl)
      · have h5' := h5 e
        cases ha : ansO S.σ m with
        | none =>
          rw [ha] at h5'
          exact ⟨fun z => absurd rfl z, fun _ => h5'⟩
        | some p =>
          rw [ha] at h5'
          have hp := ansO_lt ha
          obtain ⟨q1, q2, -⟩ := hj p hp
          refine ⟨fun _ => ?_, fun z => absurd z (nI_ne5 (by omega))⟩
          show w_X7_ofTarget K R (nI m) (20 + nI p) I _
          rw [nl_20, ofT_n, ix_nI (by omega), er]
          refine ⟨vp_in_nI (by omega) (by decide), ?_⟩
          rw [← Nat.add_assoc, q2]
          exact h5'
    have ne : ∀ (a c : Int32) (P : Prop), a ≠ c → (a = c → P) := fun a c P h e => absurd e h
    have nd : ∀ (a : Int32) (P : Prop), ((0 : Int32) ≤ a ∧ a ≤ 5) → (a.toInt < 0 ∨ 5 < a.toInt → P) := fun a P h e => absurd h (sw_no (n := 5) (by decide) e)
    have hII : stB I (t + 1) (rowB I (t + 1)) = I := stB_self _ _
    refine ⟨fun e => ⟨hMs, ?_⟩, fun e => ⟨hMs, ?_⟩, fun e => ⟨hMs, ?_⟩, fun e => ⟨hMs, ?_⟩, fun e => ?_, fun e => ⟨hMs, ?_⟩, fun e => ?_⟩
    · subst e; rw [rd 0 (by omega)]
      exact start _ _ ⟨fun _ => hG _, ne _ _ _ (by decide), ne _ _ _ (by decide), ne _ _ _ (by decide), ne _ _ _ (by decide), ne _ _ _ (by decide), nd _ _ (by decide)⟩
    · subst e; rw [rd 1 (by omega)]
      exact start _ _ ⟨ne _ _ _ (by decide), fun _ => hG _, ne _ _ _ (by decide), ne _ _ _ (by decide), ne _ _ _ (by decide), ne _ _ _ (by decide), nd _ _ (by decide)⟩
    · subst e; rw [rd 2 (by omega)]
      exact start _ _ ⟨ne _ _ _ (by decide), ne _ _ _ (by decide), fun _ => hG _, ne _ _ _ (by decide), ne _ _ _ (by decide), ne _ _ _ (by decide), nd _ _ (by decide)⟩
    · subst e; rw [e3]
      exact start _ _ ⟨ne _ _ _ (by decide), ne _ _ _ (by decide), ne _ _ _ (by decide), fun _ => hG _, ne _ _ _ (by decide), ne _ _ _ (by decide), nd _ _ (by decide)⟩
    · subst e
      have := c_doneIn (K := K) (R := R) (J := I) (b := t + 1) (m := m) (ρ := rowB I (t + 1)) (σ := S.σ) (Q := fun v I1 => w_X7_target K R r (nI m) 4 I1 (fun v' I2 => G v v' I2)) hB hS hC.2.1.2.2.1 hm
      rw [hII] at this
      exact this (start _ _ ⟨ne _ _ _ (by decide), ne _ _ _ (by decide), ne _ _ _ (by decide), ne _ _ _ (by decide), fun _ => hG _, ne _ _ _ (by decide), nd _ _ (by decide)⟩)
    · subst e
      have hpl := c_place (K := K) (R := R) (J := I) (b := t + 1) (t := m) (ρ := rowB I (t + 1)) (σ := S.σ) (Q := fun v14 I13 => w_X1_at K R (t + 1 + 18 + 5 * m + 3) v14 I13 (fun v I1 => w_X7_target K R r (nI m) 5 I1 (fun v' I2 => G v v' I2))) hB hS hC.2.1.2.2.1 hm
      rw [hII] at hpl
      have e3' : I (t + 1 + 18 + 5 * m + 3) 1 = nI (inN S.σ m) := by rw [e3]; exact en
      have fin : ∀ V, V = (match ansO S.σ m with | some p => nI (lsq S.σ m p) | none => -5) → w_X7_target K R r (nI m) 5 I (fun v' I2 => G V v' I2) := fun V eV => by
        subst eV
        exact start _ _ ⟨ne _ _ _ (by decide), ne _ _ _ (by decide), ne _ _ _ (by decide), ne _ _ _ (by decide), ne _ _ _ (by decide), fun _ => hG _, nd _ _ (by decide)⟩
      refine hpl ?_
      cases ha : ansO S.σ m with
      | none =>
        exact c_atN (n := inN S.σ m) hMs.o2 e3' (by omega) (fun j hj => (nI_ne5 (by omega)).symm) (fin _ (by rw [ha]))
      | some p =>
        have hp := ansO_lt ha
        obtain ⟨q1, q2, -⟩ := hj p hp
        refine c_at (n := inN S.σ m) hMs.o2 e3' (by omega) hp (fin _ ?_)
        rw [ha, hC.rd (a := t + 1 + 18 + 5 * m + 3 + 1) (so_tr m hm p (by omega)) (by omega) (by omega) (by omega) (by omega)]
        exact q2
    · have nx : ∀ k : Nat, k < 6 → y ≠ nI k := fun k hk z => sw_no (n := 5) (by decide) e ((in_idx (by decide)).mpr ⟨k, hk, z⟩)
      exact start _ _ ⟨ne _ _ _ (nx 0 (by omega)), ne _ _ _ (nx 1 (by omega)), ne _ _ _ (nx 2 (by omega)), ne _ _ _ (nx 3 (by omega)), ne _ _ _ (nx 4 (by omega)), ne _ _ _ (nx 5 (by omega)), fun _ => hG _⟩
  · refine c_targetNo hx ⟨fun _ => ?_, fun r4 z => by cases z⟩
    unfold w_X7_target
    exact r_port0 hx ⟨fun z => absurd rfl z, fun _ => hG _⟩
end GT
