section SC
variable {K : MK} {R : MR} {I J : MI} {t r b : Nat} {S : St}
theorem r_setTarget {Q : Int32 → MI → Prop} {m w : Nat} {z : Int32} (hM : IsModel K R r) (hm : m < 4) (hw : w < 3) (h1 : (stL 2).getD w 0 ≤ z ∧ z ≤ (stL 3).getD w 0 → w_X7_change K R r (nI (65 + 24 * m + 16 + w)) z I Q) (h0 : ¬ ((stL 2).getD w 0 ≤ z ∧ z ≤ (stL 3).getD w 0) → Q (-2) I) : w_X7_setTarget K R r (nI m) (nI w) z I Q := by
  have hin : (0 : Int32) ≤ nI w ∧ nI w ≤ nI 2 := (in_idx (by decide)).mpr ⟨w, hw, rfl⟩
  have b48 : ∀ hi lo : Int32, lo = (stL 2).getD w 0 → hi = (stL 3).getD w 0 → w_X7_setTarget_b48 K R r (nI m) (nI w) z Q hi lo I := by
    intro hi lo e1 e2
    subst e1 e2
    unfold w_X7_setTarget_b48 w_X7_setTarget_b54
    by_cases c : (stL 2).getD w 0 ≤ z ∧ z ≤ (stL 3).getD w 0
    · refine r_in1 c ⟨fun _ => ?_, fun z => absurd z z10⟩
      rw [nl_16, ofT_n, ← Nat.add_assoc]
      exact ⟨hM, h1 c⟩
    · exact r_in0 c ⟨fun z => absurd rfl z, fun _ => h0 c⟩
  unfold w_X7_setTarget
  refine r_port1 hm ⟨fun _ => r_in1 hin ⟨fun z => absurd z z10, fun _ => ?_⟩, fun z => absurd z z10⟩
  unfold w_X7_setTarget_b29
  have : w = 0 ∨ w = 1 ∨ w = 2 := by omega
  rcases this with rfl | rfl | rfl
  · exact ⟨fun _ => ⟨fun z => absurd (show nI 0 = 0 from rfl) z, fun _ => b48 _ _ rfl rfl⟩, fun z => absurd z (by decide)⟩
  · exact ⟨fun _ => ⟨fun _ => ⟨fun z => absurd (show nI 1 = 1 from rfl) z, fun _ => b48 _ _ rfl rfl⟩, fun z => absurd z (by decide)⟩, fun z => absurd z (by decide)⟩
  · exact ⟨fun z => absurd (show nI 2 = 2 from rfl) z, fun _ => ⟨fun _ => ⟨fun _ => b48 _ _ rfl rfl, fun z => absurd z (by decide)⟩, fun z => absurd z (by decide)⟩⟩
theorem p_setTarget {G : Int32 → Int32 → MI → Prop} {x y z : Int32} (hd : t + 1681 ≤ r) (hC : CT K R t I S) (hR : RT K R r I S) (hW : WS S) (hG : ∀ v I', Rel2 K R t r I' → G v v I') : w_X6_setTarget K R t x y z I (fun v I1 => w_X7_setTarget K R r x y z I1 (fun v' I2 => G v v' I2)) := by
  have hT := hC.1
  have hB := hT.o0
  have hRL : Rel2 K R t r I := ⟨S, hC, hR, hW⟩
  unfold w_X6_setTarget w_X6_setTarget_b45
  refine ⟨hT, ?_⟩
  rcases Gt_or (n := 4) x with ⟨m, hm, rfl⟩ | hx
  · refine c_targetAt hB hm ?_
    simp only [← Nat.add_assoc, true_and, and_true, true_implies, forall_eq, forall_eq', not_true, not_false_iff, false_implies, Option.some.injEq, reduceCtorEq, exists_eq_left', implies_true, nl_1, nr_1, ix_nI, vpT, r_b_q, u_b_q, r_b_tk, u_b_tk, r_b_lt, u_b_lt, r_b_tm, u_b_tm, r_b_tt, u_b_tt, r_b_at, u_b_at, r_b_qt, u_b_qt, r_b_rt, u_b_rt, r_b_id, u_b_id, r_b_ov, u_b_ov, r_set0, u_set0, r_set1, u_set1, r_set2, u_set2, r_lent, u_lent, r_m1, u_m1, r_m2, u_m2, r_m3, u_m3, r_m4, u_m4, r_m5, u_m5, r_m6, u_m6, r_m7, u_m7, r_ml, u_ml, r_mr, u_mr, r_tc, u_tc, r_tn0, u_tn0, r_tn1, u_tn1, r_tn2, u_tn2, r_tl, u_tl, r_tr, u_tr, r_w0, u_w0, r_w1, u_w1, r_w2, u_w2, r_w3, u_w3, r_w4, u_w4, r_w5, u_w5, r_w6, u_w6, r_w7, u_w7, r_w8, u_w8, r_w9, u_w9, r_wa, u_wa]
    rcases Gt_or (n := 3) y with ⟨w, hw, rfl⟩ | hy
    · rw [ix_nI (by omega)]
      simp (disch := omega) only [vpT, true_and]
      refine c_idx1 (n := 3) hw (by decide) ⟨fun z => absurd z z10, fun _ => c_in (fun c => ⟨fun _ => ⟨hB.p3 hm, ?_⟩, fun z => absurd z z10⟩) (fun c => ⟨fun z => absurd rfl z, fun _ => r_setTarget hR.1 hm hw (fun z => absurd z c) (fun _ => hG _ _ hRL)⟩)⟩
      exact p_chg (W := fun I1 Q => w_X7_setTarget K R r (nI m) (nI w) z I1 Q) hd hC hR hW hG (so_tn m hm w hw) (by omega) (by omega) (by omega) (fun ρ hρ => by
          have : w = 0 ∨ w = 1 ∨ w = 2 := by omega
          rcases this with rfl | rfl | rfl
          · obtain ⟨j, hj, e⟩ := le_nI (n := 4) (Int32.le_trans (show (0 : Int32) ≤ 1 by decide) c.1) c.2 (by decide)
            have hj1 : 1 ≤ j := by
              have := c.1
              rw [e] at this
              exact (nI_leI (a := 1) (by omega) (by omega)).mp this
            rw [e]
            exact hρ.room hm hj1 hj
          · exact hρ.su1 (by unfold isStr; omega)
          · exact hρ.su1 (by unfold isStr; omega)) (fun I1 Q hR1 hch => r_setTarget hR1.1 hm hw (fun _ => hch) (fun z => absurd c z))
    · have hy' : ¬ ((0 : Int32) ≤ y ∧ y ≤ nI 2) := fun c => by
        obtain ⟨j, hj, e⟩ := (in_idx (by decide)).mp c
        exact hy j hj e
      refine c_idxN (n := 3) (by decide) hy ⟨fun _ => ?_, fun z => absurd rfl z⟩
      unfold w_X7_setTarget w_X7_setTarget_b54
      exact r_port1 hm ⟨fun _ => r_in0 hy' ⟨fun _ => hG _ _ hRL, fun z => absurd rfl z⟩, fun z => absurd z z10⟩
  · refine c_targetNo hx ⟨fun _ => ?_, fun r4 z => by cases z⟩
    unfold w_X7_setTarget
    exact r_port0 hx ⟨fun z => absurd rfl z, fun _ => hG _ _ hRL⟩
/-- the highest lent tag -/
def hiL (σ : Sr) : Nat → Int32
  | 0 => -5
  | n + 1 => if σ (13 + n) = -5 then hiL σ n else nI n
theorem hiL_ok {σ : Sr} {T' : Nat} (hT : T' < 2 ^ 31) : ∀ n, n ≤ 8 → (hiL σ n < nI T' ↔ ∀ k, k < n → T' ≤ k → σ (13 + k) = -5)
  | 0, _ => by
    refine ⟨fun _ k hk => by omega, fun _ => ?_⟩
    unfold hiL
    have h0 : (-5 : Int32) < 0 := by decide
    exact Int32.lt_of_lt_of_le h0 (nI_pos' hT)
  | n + 1, hn => by
    have ih := hiL_ok (σ := σ) hT n (by omega)
    unfold hiL
    by_cases c : σ (13 + n) = -5
    · rw [if_pos c, ih]
      refine ⟨fun h k hk hk2 => ?_, fun h k hk hk2 => h k (by omega) hk2⟩
      by_cases e : k = n
      · subst e; exact c
      · exact h k (by omega) hk2
    · rw [if_neg c, nI_ltI (by omega) hT]
      refine ⟨fun h k hk hk2 => by omega, fun h => ?_⟩
      rcases Nat.lt_or_ge n T' with z | z
      · exact z
      · exact absurd (h n (by omega) z) c
theorem c_highest {Q : Int32 → MI → Prop} {ρ σ : Sr} (hB : IsBus K R b) (hl : ∀ k, k < 8 → ρ (13 + k) = σ (13 + k)) (h : Q (hiL σ 8) (stB J b ρ)) : w_X0_highestLentTag K R b (stB J b ρ) Q := by
  unfold w_X0_highestLentTag w_X0_highestLentTag_b5
  intro X hX
  have key : ∀ d k, k + d = 8 → X (hiL σ k) (nI k) (stB J b ρ) := by
    intro d
    induction d with
    | zero =>
      intro k hk
      refine hX _ _ _ ?_
      have hk8 : k = 8 := by omega
      subst hk8
      unfold w_X0_highestLentTag_b5_body
      simp (disch := omega) only [← Nat.add_assoc, true_and, and_true, true_implies, forall_eq, forall_eq', not_true, not_false_iff, false_implies, Option.some.injEq, reduceCtorEq, exists_eq_left', implies_true, nl_1, nr_1, ix_nI, vpT, r_b_q, u_b_q, r_b_tk, u_b_tk, r_b_lt, u_b_lt, r_b_tm, u_b_tm, r_b_tt, u_b_tt, r_b_at, u_b_at, r_b_qt, u_b_qt, r_b_rt, u_b_rt, r_b_id, u_b_id, r_b_ov, u_b_ov, r_set0, u_set0, r_set1, u_set1, r_set2, u_set2, r_lent, u_lent, r_m1, u_m1, r_m2, u_m2, r_m3, u_m3, r_m4, u_m4, r_m5, u_m5, r_m6, u_m6, r_m7, u_m7, r_ml, u_ml, r_mr, u_mr, r_tc, u_tc, r_tn0, u_tn0, r_tn1, u_tn1, r_tn2, u_tn2, r_tl, u_tl, r_tr, u_tr, r_w0, u_w0, r_w1, u_w1, r_w2, u_w2, r_w3, u_w3, r_w4, u_w4, r_w5, u_w5, r_w6, u_w6, r_w7, u_w7, r_w8, u_w8, r_w9, u_w9, r_wa, u_wa, ll_8, Nat.le_refl]
      exact h
    | succ d ih =>
      intro k hk
      refine hX _ _ _ ?_
      have hk8 : ¬ 8 ≤ k := by omega
      have ih1 := ih (k + 1) (by omega)
      unfold hiL at ih1
      unfold w_X0_highestLentTag_b5_body w_X0_highestLentTag_b24
      simp (disch := omega) only [← Nat.add_assoc, true_and, and_true, true_implies, forall_eq, forall_eq', not_true, not_false_iff, false_implies, Option.some.injEq, reduceCtorEq, exists_eq_left', implies_true, nl_1, nr_1, ix_nI, vpT, r_b_q, u_b_q, r_b_tk, u_b_tk, r_b_lt, u_b_lt, r_b_tm, u_b_tm, r_b_tt, u_b_tt, r_b_at, u_b_at, r_b_qt, u_b_qt, r_b_rt, u_b_rt, r_b_id, u_b_id, r_b_ov, u_b_ov, r_set0, u_set0, r_set1, u_set1, r_set2, u_set2, r_lent, u_lent, r_m1, u_m1, r_m2, u_m2, r_m3, u_m3, r_m4, u_m4, r_m5, u_m5, r_m6, u_m6, r_m7, u_m7, r_ml, u_ml, r_mr, u_mr, r_tc, u_tc, r_tn0, u_tn0, r_tn1, u_tn1, r_tn2, u_tn2, r_tl, u_tl, r_tr, u_tr, r_w0, u_w0, r_w1, u_w1, r_w2, u_w2, r_w3, u_w3, r_w4, u_w4, r_w5, u_w5, r_w6, u_w6, r_w7, u_w7, r_w8, u_w8, r_w9, u_w9, r_wa, u_wa, ll_8, hk8, hl]
      refine ⟨hB, fun c => ?_, fun c => ?_⟩
      · rw [if_pos c] at ih1; exact ih1
      · rw [if_neg c] at ih1; exact ih1
  exact key 8 0 rfl
theorem r_lentFrom {Q : Int32 → MI → Prop} {T' : Nat} (hR : RT K R r I S) (hS : InvS S.σ) (hT' : T' ≤ 8) (h1 : (∃ k, T' ≤ k ∧ k < Tg_ S.σ ∧ S.σ (13 + k) ≠ -5) → Q 1 I) (h0 : (¬ ∃ k, T' ≤ k ∧ k < Tg_ S.σ ∧ S.σ (13 + k) ≠ -5) → Q 0 I) : w_X7_isLentFrom K R r (nI T') I Q := by
  obtain ⟨hT, -, hT8⟩ := hS.T1
  have hM := hR.1
  have hσ := hR.2.1
  unfold w_X7_isLentFrom w_X7_isLentFrom_b4
  intro X hX
  have key1 : ∀ d k, k + d = 8 → T' ≤ k → (∃ j, T' ≤ j ∧ j < Tg_ S.σ ∧ S.σ (13 + j) ≠ -5) → X 1 (nI k) I := by
    intro d
    induction d with
    | zero =>
      intro k hk hk' he
      refine hX _ _ _ ?_
      have : Tg_ S.σ ≤ k := by omega
      unfold w_X7_isLentFrom_b4_body
      simp (disch := omega) only [hσ, hT, nI_leI', this, true_implies, not_true, false_implies, and_true]
      exact ⟨hM, bz1, h1 he⟩
    | succ d ih =>
      intro k hk hk' he
      refine hX _ _ _ ?_
      unfold w_X7_isLentFrom_b4_body w_X7_isLentFrom_b32 w_X7_isLentFrom_b37
      simp (disch := omega) only [hσ, hT, nI_leI', nr_1]
      exact ⟨hM, fun _ => ⟨bz1, h1 he⟩, fun _ => ⟨fun _ => ih (k + 1) (by omega) (by omega) he, fun z => absurd z z10⟩⟩
  have key : ∀ d k, k + d = 8 → T' ≤ k → (∀ j, T' ≤ j → j < k → j < Tg_ S.σ → S.σ (13 + j) = -5) → X 0 (nI k) I := by
    intro d
    induction d with
    | zero =>
      intro k hk hk' he
      refine hX _ _ _ ?_
      have : Tg_ S.σ ≤ k := by omega
      unfold w_X7_isLentFrom_b4_body
      simp (disch := omega) only [hσ, hT, nI_leI', this, true_implies, not_true, false_implies, and_true]
      refine ⟨hM, bz0, h0 ?_⟩
      rintro ⟨j, a, c, e⟩
      exact e (he j a (by omega) c)
    | succ d ih =>
      intro k hk hk' he
      refine hX _ _ _ ?_
      by_cases c : Tg_ S.σ ≤ k
      · unfold w_X7_isLentFrom_b4_body
        simp (disch := omega) only [hσ, hT, nI_leI', c, true_implies, not_true, false_implies, and_true]
        refine ⟨hM, bz0, h0 ?_⟩
        rintro ⟨j, a, c, e⟩
        exact e (he j a (by omega) c)
      · unfold w_X7_isLentFrom_b4_body w_X7_isLentFrom_b32 w_X7_isLentFrom_b37
        simp (disch := omega) only [hσ, hT, nI_leI', c, not_true, false_implies, not_false_iff, true_implies, true_and, nl_13, vpT, ix_nI, nr_1]
        refine ⟨hM, fun e => ih (k + 1) (by omega) (by omega) (fun j a d' f => ?_), fun e => key1 d (k + 1) (by omega) (by omega) ⟨k, hk', by omega, e⟩⟩
        by_cases ej : j = k
        · subst ej; exact e
        · exact he j a (by omega) f
  rcases Nat.lt_or_ge T' 9 with z | z
  · exact key (8 - T') T' (by omega) (Nat.le_refl _) (fun j a c => by omega)
  · omega
end SC
