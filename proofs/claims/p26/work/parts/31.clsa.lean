/-! THE CLASS'S BUS: its methods, beside the row of the reference -/
def AgE (ρ σ : Sr) (A e : Nat) : Prop := ∀ k, k < 161 + 11 * A → k ≠ 5 → k ≠ e → ¬ (161 ≤ k ∧ (k - 161) % 11 = 10) → ρ k = σ k
def Ag (ρ σ : Sr) (A : Nat) : Prop := ∀ k, k < 161 + 11 * A → k ≠ 5 → ¬ (161 ≤ k ∧ (k - 161) % 11 = 10) → ρ k = σ k
def DR (ρ σ : Sr) (A : Nat) : Prop := ∀ q, q < A → OnT σ q → ρ (161 + 11 * q + 10) = σ (161 + 11 * q + 10)
theorem c_idx1 {K : MK} {R : MR} {I : MI} {Q : Int32 → MI → Prop} {k n : Nat} (hk : k < n) (hn : n < 2 ^ 31) (h : Q 1 I) : w_X6_isIndex K R (nI k) (nI n) I Q := by
  unfold w_X6_isIndex w_X6_isIndex_b14
  refine ⟨fun c => absurd c (Int32.not_lt.mpr (nI_pos' (by omega))), fun _ => ⟨fun c => ?_, fun _ => ⟨bz1, h⟩⟩⟩
  have := (nI_leI (by omega) (by omega)).mp c
  omega
theorem c_idx0 {K : MK} {R : MR} {I : MI} {Q : Int32 → MI → Prop} {x n : Int32} (hx : ¬ ((0 : Int32) ≤ x ∧ ¬ n ≤ x)) (h : Q 0 I) : w_X6_isIndex K R x n I Q := by
  unfold w_X6_isIndex w_X6_isIndex_b14 w_X6_isIndex_b13
  exact ⟨fun c => ⟨bz0, h⟩, fun d => ⟨fun c => ⟨bz0, h⟩, fun e => absurd ⟨Int32.not_lt.mp d, e⟩ hx⟩⟩
theorem z10 : ¬ (1 : Int32) = 0 := by decide
section CA
variable {K : MK} {R : MR} {I J : MI} {b : Nat} {σ ρ : Sr}
theorem c_masterAt {Q : Option Nat → MI → Prop} {m : Nat} (hB : IsBus K R b) (hm : m < 4) (h : Q (some (b + 6 + 3 * m)) I) : w_X0_masterAt K R b (nI m) I Q := by
  unfold w_X0_masterAt w_X0_masterAt_b18
  refine c_idx1 (n := 4) hm (by decide) ⟨fun c => absurd c z10, fun _ => ⟨hB, vp_in_nI hm (by decide), ?_⟩⟩
  rw [ix_nI (by omega)]
  exact h
theorem c_targetAt {Q : Option Nat → MI → Prop} {m : Nat} (hB : IsBus K R b) (hm : m < 4) (h : Q (some (b + 18 + 5 * m)) I) : w_X0_targetAt K R b (nI m) I Q := by
  unfold w_X0_targetAt w_X0_targetAt_b18
  refine c_idx1 (n := 4) hm (by decide) ⟨fun c => absurd c z10, fun _ => ⟨hB, vp_in_nI hm (by decide), ?_⟩⟩
  rw [ix_nI (by omega)]
  exact h
theorem c_questionAt {Q : Option Nat → MI → Prop} {q A : Nat} (hB : IsBus K R b) (hI : I b 5 = nI A) (hA : A ≤ 200) (hq : q < A) (h : Q (some (b + 38 + q)) I) : w_X0_questionAt K R b (nI q) I Q := by
  unfold w_X0_questionAt w_X0_questionAt_b31
  rw [hI]
  refine ⟨hB, c_idx1 hq (by omega) ⟨fun c => absurd c z10, fun _ => c_idx1 (n := 200) (by omega) (by decide) ⟨fun c => absurd c z10, fun _ => ⟨vp_in_nI (by omega) (by decide), ?_⟩⟩⟩⟩
  rw [ix_nI (by omega)]
  exact h
theorem c_questionNo {Q : Option Nat → MI → Prop} (hB : IsBus K R b) (h : Q none I) : w_X0_questionAt K R b (-5) I Q := by
  unfold w_X0_questionAt w_X0_questionAt_b30 w_X0_questionAt_b31
  exact ⟨hB, c_idx0 (fun z => absurd z.1 (by decide)) ⟨fun _ => h, fun c => absurd rfl c⟩⟩
theorem c_at {Q : Int32 → MI → Prop} {a j n : Nat} (hL : IsLine K R a) (hI : I a 1 = nI n) (hn : n ≤ 6) (hj : j < n) (h : Q (I (a + 1) j) I) : w_X1_at K R a (nI j) I Q := by
  unfold w_X1_at w_X1_at_b31
  rw [hI]
  refine ⟨hL, c_idx1 hj (by omega) ⟨fun c => absurd c z10, fun _ => c_idx1 (n := 6) (by omega) (by decide) ⟨fun c => absurd c z10, fun _ => ⟨vp_in_nI (by omega) (by decide), ?_⟩⟩⟩⟩
  rw [ix_nI (by omega)]
  exact h
theorem c_useCell {Q : Int32 → MI → Prop} {t c : Nat} {x : Int32} (hB : IsBus K R b) (ht : t < 4) (hc : c < 16) (h : Q (ρ (65 + 24 * t + c)) (stB J b (su ρ (65 + 24 * t + c) (if x = -5 then ρ (65 + 24 * t + c) else x)))) : w_X5_useCell K R (b + 18 + 5 * t) (nI c) x (stB J b ρ) Q := by
  unfold w_X5_useCell w_X5_useCell_b32
  refine c_idx1 (n := 16) hc (by decide) ⟨fun _ => ?_, fun c => absurd c z10⟩
  simp (disch := omega) only [← Nat.add_assoc, true_and, and_true, true_implies, forall_eq, forall_eq', not_true, not_false_iff, false_implies, Option.some.injEq, reduceCtorEq, exists_eq_left', implies_true, nl_1, nr_1, ix_nI, vpT, r_b_q, u_b_q, r_b_tk, u_b_tk, r_b_lt, u_b_lt, r_b_tm, u_b_tm, r_b_tt, u_b_tt, r_b_at, u_b_at, r_b_qt, u_b_qt, r_b_rt, u_b_rt, r_b_id, u_b_id, r_b_ov, u_b_ov, r_set0, u_set0, r_set1, u_set1, r_set2, u_set2, r_lent, u_lent, r_m1, u_m1, r_m2, u_m2, r_m3, u_m3, r_m4, u_m4, r_m5, u_m5, r_m6, u_m6, r_m7, u_m7, r_ml, u_ml, r_mr, u_mr, r_tc, u_tc, r_tn0, u_tn0, r_tn1, u_tn1, r_tn2, u_tn2, r_tl, u_tl, r_tr, u_tr, r_w0, u_w0, r_w1, u_w1, r_w2, u_w2, r_w3, u_w3, r_w4, u_w4, r_w5, u_w5, r_w6, u_w6, r_w7, u_w7, r_w8, u_w8, r_w9, u_w9, r_wa, u_wa]
  refine ⟨hB.p3 ht, fun e => ?_, fun e => ?_⟩
  · rw [if_pos e] at h
    have : su ρ (65 + 24 * t + c) (ρ (65 + 24 * t + c)) = ρ := by
      funext j
      by_cases hj : j = 65 + 24 * t + c
      · subst hj; rw [su_s]
      · rw [su_n hj]
    rw [this] at h
    exact h
  · rw [if_neg e] at h
    exact h
theorem Ag.both {A k : Nat} {x : Int32} (h : Ag ρ σ A) : Ag (su ρ k x) (su σ k x) A := by
  intro j h1 h2 h3
  by_cases e : j = k
  · subst e; rw [su_s, su_s]
  · rw [su_n e, su_n e]; exact h j h1 h2 h3
theorem Ag.sl {A k : Nat} {x : Int32} (h : Ag ρ σ A) (hk : k = 5 ∨ 161 + 11 * A ≤ k ∨ (161 ≤ k ∧ (k - 161) % 11 = 10)) : Ag (su ρ k x) σ A := by
  intro j h1 h2 h3
  rw [su_n (by omega)]
  exact h j h1 h2 h3
theorem Ag.sr {A k : Nat} {x : Int32} (h : Ag ρ σ A) (hk : k = 5 ∨ 161 + 11 * A ≤ k ∨ (161 ≤ k ∧ (k - 161) % 11 = 10)) : Ag ρ (su σ k x) A := by
  intro j h1 h2 h3
  rw [su_n (by omega)]
  exact h j h1 h2 h3
theorem Ag.d {A q : Nat} (h : Ag ρ σ A) (hq : q < A) {w : Nat} (hw : w < 10) : ρ (161 + 11 * q + w) = σ (161 + 11 * q + w) := h _ (by omega) (by omega) (by omega)
theorem InvS.A4 (h : InvS σ) : σ 4 = nI (ix (σ 4)) ∧ ix (σ 4) ≤ 200 := by
  obtain ⟨A, e, h⟩ := h.A
  rw [ix_eq e (by omega)]
  exact ⟨e, h⟩
theorem InvS.T1 (h : InvS σ) : σ 1 = nI (Tg_ σ) ∧ 1 ≤ Tg_ σ ∧ Tg_ σ ≤ 8 := by
  obtain ⟨T, e, h1, h2⟩ := h.T
  unfold Tg_
  rw [ix_eq e (by omega)]
  exact ⟨e, h1, h2⟩
/-- agreement of the rows, and of the times -/
def AgD (ρ σ : Sr) : Prop := Ag ρ σ (ix (σ 4)) ∧ DR ρ σ (ix (σ 4))
theorem c_freeTag {Q : Int32 → MI → Prop} (hB : IsBus K R b) (hS : InvS σ) (hG : Ag ρ σ (ix (σ 4))) (h : Q (oI (freeO σ)) (stB J b ρ)) : w_X0_lowestFreeTag K R b (stB J b ρ) Q := by
  obtain ⟨hT, h1, h8⟩ := hS.T1
  have hs : ρ 1 = nI (Tg_ σ) := by rw [hG 1 (by omega) (by omega) (by omega)]; exact hT
  have hl : ∀ k, k < 8 → ρ (13 + k) = σ (13 + k) := fun k hk => hG _ (by omega) (by omega) (by omega)
  unfold w_X0_lowestFreeTag w_X0_lowestFreeTag_b2
  intro X hX
  have key : ∀ d k, k + d = Tg_ σ → (∀ j, j < k → (σ (13 + j) == -5) = false) → X (nI k) (stB J b ρ) := by
    intro d
    induction d with
    | zero =>
      intro k hk hj
      refine hX _ _ ?_
      unfold w_X0_lowestFreeTag_b2_body w_X0_lowestFreeTag_b37
      have hk2 : Tg_ σ ≤ k := by omega
      simp (disch := omega) only [← Nat.add_assoc, true_and, and_true, true_implies, forall_eq, forall_eq', not_true, not_false_iff, false_implies, Option.some.injEq, reduceCtorEq, exists_eq_left', implies_true, nl_1, nr_1, ix_nI, vpT, r_b_q, u_b_q, r_b_tk, u_b_tk, r_b_lt, u_b_lt, r_b_tm, u_b_tm, r_b_tt, u_b_tt, r_b_at, u_b_at, r_b_qt, u_b_qt, r_b_rt, u_b_rt, r_b_id, u_b_id, r_b_ov, u_b_ov, r_set0, u_set0, r_set1, u_set1, r_set2, u_set2, r_lent, u_lent, r_m1, u_m1, r_m2, u_m2, r_m3, u_m3, r_m4, u_m4, r_m5, u_m5, r_m6, u_m6, r_m7, u_m7, r_ml, u_ml, r_mr, u_mr, r_tc, u_tc, r_tn0, u_tn0, r_tn1, u_tn1, r_tn2, u_tn2, r_tl, u_tl, r_tr, u_tr, r_w0, u_w0, r_w1, u_w1, r_w2, u_w2, r_w3, u_w3, r_w4, u_w4, r_w5, u_w5, r_w6, u_w6, r_w7, u_w7, r_w8, u_w8, r_w9, u_w9, r_wa, u_wa, hs, nI_leI', hk2]
      refine ⟨hB, ?_⟩
      have : freeO σ = none := by unfold freeO; exact find_none (fun j h => hj j (by omega))
      rw [this] at h
      exact h
    | succ d ih =>
      intro k hk hj
      refine hX _ _ ?_
      unfold w_X0_lowestFreeTag_b2_body
      have hk2 : ¬ Tg_ σ ≤ k := by omega
      have hk8 : ¬ 8 ≤ k := by omega
      simp (disch := omega) only [← Nat.add_assoc, true_and, and_true, true_implies, forall_eq, forall_eq', not_true, not_false_iff, false_implies, Option.some.injEq, reduceCtorEq, exists_eq_left', implies_true, nl_1, nr_1, ix_nI, vpT, r_b_q, u_b_q, r_b_tk, u_b_tk, r_b_lt, u_b_lt, r_b_tm, u_b_tm, r_b_tt, u_b_tt, r_b_at, u_b_at, r_b_qt, u_b_qt, r_b_rt, u_b_rt, r_b_id, u_b_id, r_b_ov, u_b_ov, r_set0, u_set0, r_set1, u_set1, r_set2, u_set2, r_lent, u_lent, r_m1, u_m1, r_m2, u_m2, r_m3, u_m3, r_m4, u_m4, r_m5, u_m5, r_m6, u_m6, r_m7, u_m7, r_ml, u_ml, r_mr, u_mr, r_tc, u_tc, r_tn0, u_tn0, r_tn1, u_tn1, r_tn2, u_tn2, r_tl, u_tl, r_tr, u_tr, r_w0, u_w0, r_w1, u_w1, r_w2, u_w2, r_w3, u_w3, r_w4, u_w4, r_w5, u_w5, r_w6, u_w6, r_w7, u_w7, r_w8, u_w8, r_w9, u_w9, r_wa, u_wa, hs, nI_leI', ll_8, hk2, hk8, hl]
      refine ⟨hB, fun c => ih (k + 1) (by omega) (fun j h2 => ?_), fun c => ?_⟩
      · rcases Nat.lt_succ_iff_lt_or_eq.mp h2 with h3 | h3
        · exact hj j h3
        · subst h3; simpa using c
      · have : freeO σ = some k := by unfold freeO; exact find_some (by omega) (by simpa using c) hj
        rw [this] at h
        exact h
  exact key (Tg_ σ) 0 (by omega) (fun j h => absurd h (by omega))
end CA
