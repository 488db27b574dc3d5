section CNT
variable {K : MK} {R : MR} {I J : MI} {t r b : Nat} {S : St}
def frB (σ : Sr) (k : Nat) : Bool := σ (13 + k) == -5
theorem c_freeTags {Q : Int32 → MI → Prop} {ρ σ : Sr} (hB : IsBus K R b) (hS : InvS σ) (hG : Ag ρ σ (ix (σ 4))) (h : Q (nI (cnt (frB σ) (Tg_ σ))) (stB J b ρ)) : w_X0_freeTags K R b (stB J b ρ) Q := by
  obtain ⟨hT, h1, h8⟩ := hS.T1
  have hs : ρ 1 = nI (Tg_ σ) := by rw [hG 1 (by omega) (by omega) (by omega)]; exact hT
  have hl : ∀ k, k < 8 → ρ (13 + k) = σ (13 + k) := fun k hk => hG _ (by omega) (by omega) (by omega)
  unfold w_X0_freeTags w_X0_freeTags_b4
  intro X hX
  have key : ∀ d k, k + d = Tg_ σ → X (nI (cnt (frB σ) k)) (nI k) (stB J b ρ) := by
    intro d
    induction d with
    | zero =>
      intro k hk
      refine hX _ _ _ ?_
      have hk2 : Tg_ σ ≤ k := by omega
      have hk3 : k = Tg_ σ := by omega
      unfold w_X0_freeTags_b4_body w_X0_freeTags_b40
      simp (disch := omega) only [← Nat.add_assoc, true_and, and_true, true_implies, forall_eq, forall_eq', not_true, not_false_iff, false_implies, Option.some.injEq, reduceCtorEq, exists_eq_left', implies_true, nl_1, nr_1, ix_nI, vpT, r_b_q, u_b_q, r_b_tk, u_b_tk, r_b_lt, u_b_lt, r_b_tm, u_b_tm, r_b_tt, u_b_tt, r_b_at, u_b_at, r_b_qt, u_b_qt, r_b_rt, u_b_rt, r_b_id, u_b_id, r_b_ov, u_b_ov, r_set0, u_set0, r_set1, u_set1, r_set2, u_set2, r_lent, u_lent, r_m1, u_m1, r_m2, u_m2, r_m3, u_m3, r_m4, u_m4, r_m5, u_m5, r_m6, u_m6, r_m7, u_m7, r_ml, u_ml, r_mr, u_mr, r_tc, u_tc, r_tn0, u_tn0, r_tn1, u_tn1, r_tn2, u_tn2, r_tl, u_tl, r_tr, u_tr, r_w0, u_w0, r_w1, u_w1, r_w2, u_w2, r_w3, u_w3, r_w4, u_w4, r_w5, u_w5, r_w6, u_w6, r_w7, u_w7, r_w8, u_w8, r_w9, u_w9, r_wa, u_wa, hs, nI_leI', hk2]
      rw [hk3]
      exact ⟨hB, h⟩
    | succ d ih =>
      intro k hk
      refine hX _ _ _ ?_
      have hk2 : ¬ Tg_ σ ≤ k := by omega
      have hk8 : ¬ 8 ≤ k := by omega
      have ih1 := ih (k + 1) (by omega)
      unfold w_X0_freeTags_b4_body w_X0_freeTags_b34
      simp (disch := omega) only [← Nat.add_assoc, true_and, and_true, true_implies, forall_eq, forall_eq', not_true, not_false_iff, false_implies, Option.some.injEq, reduceCtorEq, exists_eq_left', implies_true, nl_1, nr_1, ix_nI, vpT, r_b_q, u_b_q, r_b_tk, u_b_tk, r_b_lt, u_b_lt, r_b_tm, u_b_tm, r_b_tt, u_b_tt, r_b_at, u_b_at, r_b_qt, u_b_qt, r_b_rt, u_b_rt, r_b_id, u_b_id, r_b_ov, u_b_ov, r_set0, u_set0, r_set1, u_set1, r_set2, u_set2, r_lent, u_lent, r_m1, u_m1, r_m2, u_m2, r_m3, u_m3, r_m4, u_m4, r_m5, u_m5, r_m6, u_m6, r_m7, u_m7, r_ml, u_ml, r_mr, u_mr, r_tc, u_tc, r_tn0, u_tn0, r_tn1, u_tn1, r_tn2, u_tn2, r_tl, u_tl, r_tr, u_tr, r_w0, u_w0, r_w1, u_w1, r_w2, u_w2, r_w3, u_w3, r_w4, u_w4, r_w5, u_w5, r_w6, u_w6, r_w7, u_w7, r_w8, u_w8, r_w9, u_w9, r_wa, u_wa, hs, nI_leI', ll_8, hk2, hk8, hl]
      refine ⟨hB, fun c => ?_, fun c => ?_⟩
      · rw [cnt_f (show frB σ k = false from beq_eq_false_iff_ne.mpr c)] at ih1
        exact ih1
      · rw [cnt_t (show frB σ k = true by unfold frB; rw [c]; rfl)] at ih1
        exact ih1
  exact key (Tg_ σ) 0 (by omega)
theorem r_freeTags {Q : Int32 → MI → Prop} (hR : RT K R r I S) (hS : InvS S.σ) (h : Q (nI (cnt (frB S.σ) (Tg_ S.σ))) I) : w_X7_freeTags K R r I Q := by
  obtain ⟨hT, h1, h8⟩ := hS.T1
  have hM := hR.1
  have er : ∀ k, I (r + 1) k = S.σ k := fun k => by rw [hR.2.1]
  unfold w_X7_freeTags w_X7_freeTags_b4
  intro X hX
  have key : ∀ d k, k + d = Tg_ S.σ → X (nI (cnt (frB S.σ) k)) (nI k) I := by
    intro d
    induction d with
    | zero =>
      intro k hk
      refine hX _ _ _ ?_
      have hk2 : Tg_ S.σ ≤ k := by omega
      have hk3 : k = Tg_ S.σ := by omega
      unfold w_X7_freeTags_b4_body
      rw [er, hT]
      simp (disch := omega) only [nI_leI', hk2, true_implies, not_true, false_implies, and_true]
      rw [hk3]
      exact ⟨hM, h⟩
    | succ d ih =>
      intro k hk
      refine hX _ _ _ ?_
      have hk2 : ¬ Tg_ S.σ ≤ k := by omega
      have ih1 := ih (k + 1) (by omega)
      unfold w_X7_freeTags_b4_body w_X7_freeTags_b34
      rw [er, hT]
      simp (disch := omega) only [nI_leI', hk2, false_implies, true_and, not_false_iff, true_implies, nl_13, vpT, ix_nI, er, nr_1]
      refine ⟨hM, fun c => ?_, fun c => ?_⟩
      · rw [cnt_f (show frB S.σ k = false from beq_eq_false_iff_ne.mpr c)] at ih1
        rw [i32_add0]
        exact ih1
      · rw [cnt_t (show frB S.σ k = true by unfold frB; rw [c]; rfl)] at ih1
        exact ih1
  exact key (Tg_ S.σ) 0 (by omega)
theorem p_count {G : Int32 → Int32 → MI → Prop} {x : Int32} (hC : CT K R t I S) (hR : RT K R r I S) (hG : ∀ v, G v v I) : w_X6_count K R t x I (fun v I1 => w_X7_count K R r x I1 (fun v' I2 => G v v' I2)) := by
  have hT := hC.1
  have hB := hT.o0
  have hS := hC.2.1.1
  have hM := hR.1
  have er : ∀ k, I (r + 1) k = S.σ k := fun k => by rw [hR.2.1]
  have rd : ∀ s k, slotO 0 s = some k → k < 13 → k ≠ 5 → I (t + 1) s = S.σ k := fun s k hs hk h5 => hC.rd hs (by omega) (by omega) h5 (by omega)
  have rs : ∀ k, k < 3 → I (t + 1 + 1) k = S.σ (1 + k) := fun k hk => hC.rd (so_set k hk) (by omega) (by omega) (by omega) (by omega)
  have start : ∀ (V x2 : Int32), ((x2 = (0:Int32) → G V (S.σ 0) I) ∧ (x2 = (1:Int32) → G V (S.σ 1) I) ∧ (x2 = (2:Int32) → G V (S.σ 2) I) ∧ (x2 = (3:Int32) → G V (S.σ 3) I) ∧ (x2 = (4:Int32) → G V (S.σ 4) I) ∧ (x2 = (5:Int32) → G V (nI (cnt (frB S.σ) (Tg_ S.σ))) I) ∧ (x2 = (6:Int32) → G V (S.σ 8) I) ∧ (x2 = (7:Int32) → G V (S.σ 9) I) ∧ (x2 = (8:Int32) → G V (S.σ 10) I) ∧ (x2 = (9:Int32) → G V (S.σ 11) I) ∧ (x2 = (10:Int32) → G V (S.σ 12) I) ∧ (x2 = (11:Int32) → G V (nI S.c) I) ∧ (x2 = (12:Int32) → G V (nI S.len) I) ∧ (x2.toInt < 0 ∨ 12 < x2.toInt → G V (-2) I)) → w_X7_count K R r x2 I (fun v' I2 => G V v' I2) := by
    intro V x2 h
    obtain ⟨h0, h1, h2, h3, h4, h5, h6, h7, h8, h9, h10, h11, h12, h13⟩ := h
    unfold w_X7_count w_X7_count_b68 w_X7_count_b80
    have a : ∀ (x : Int32) (k : Nat), x = nI k → k < 2361 → G V (S.σ k) I → vp_in x 2361 ∧ G V (I (r + 1) (ix x)) I := fun x k e hk hg => by
      subst e
      rw [ix_nI (by omega), er]
      exact ⟨vp_in_nI hk (by decide), hg⟩
    refine ⟨fun e => ⟨hM, a _ 0 (by rw [e]; rfl) (by omega) (h0 e)⟩, fun e => ⟨hM, a _ 1 (by rw [e]; rfl) (by omega) (h1 e)⟩, fun e => ⟨hM, a _ 2 (by rw [e]; rfl) (by omega) (h2 e)⟩, fun e => ⟨hM, a _ 3 (by rw [e]; rfl) (by omega) (h3 e)⟩, fun e => ⟨hM, a _ 4 (by rw [e]; rfl) (by omega) (h4 e)⟩, fun e => ⟨hM, r_freeTags hR hS (h5 e)⟩, fun e => ⟨hM, a _ 8 (by rw [e]; decide) (by omega) (h6 e)⟩, fun e => ⟨hM, a _ 9 (by rw [e]; decide) (by omega) (h7 e)⟩, fun e => ⟨hM, a _ 10 (by rw [e]; decide) (by omega) (h8 e)⟩, fun e => ⟨hM, a _ 11 (by rw [e]; decide) (by omega) (h9 e)⟩, fun e => ⟨hM, a _ 12 (by rw [e]; decide) (by omega) (h10 e)⟩, fun e => ⟨hM, ?_⟩, fun e => ⟨hM, ?_⟩, h13⟩
    · show G V (I r 3) I
      rw [hR.2.2.2.2.2.1.2]; exact h11 e
    · show G V (I r 7) I
      rw [hR.2.2.2.2.2.2.2.2.1]; exact h12 e
  have ne : ∀ (a c : Int32) (P : Prop), a ≠ c → (a = c → P) := fun a c P h e => absurd e h
  have nd : ∀ (a : Int32) (P : Prop), ((0 : Int32) ≤ a ∧ a ≤ 12) → (a.toInt < 0 ∨ 12 < a.toInt → P) := fun a P h e => absurd h (sw_no (n := 12) (by decide) e)
  -- one number: only its own case stands
  have one : ∀ (V : Int32) (w : Nat), w < 13 → ((w = 0 → V = S.σ 0) ∧ (w = 1 → V = S.σ 1) ∧ (w = 2 → V = S.σ 2) ∧ (w = 3 → V = S.σ 3) ∧ (w = 4 → V = S.σ 4) ∧ (w = 5 → V = nI (cnt (frB S.σ) (Tg_ S.σ))) ∧ (w = 6 → V = S.σ 8) ∧ (w = 7 → V = S.σ 9) ∧ (w = 8 → V = S.σ 10) ∧ (w = 9 → V = S.σ 11) ∧ (w = 10 → V = S.σ 12) ∧ (w = 11 → V = nI S.c) ∧ (w = 12 → V = nI S.len)) → w_X7_count K R r (nI w) I (fun v' I2 => G V v' I2) := by
    intro V w hw h
    obtain ⟨h0, h1, h2, h3, h4, h5, h6, h7, h8, h9, h10, h11, h12⟩ := h
    have z : ∀ (k : Nat) (W : Int32), k < 13 → (w = k → V = W) → (nI w = nI k → G V W I) := fun k W hk h e => by
      rw [h (nI_inj (by omega) (by omega) e)]; exact hG _
    exact start V (nI w) ⟨z 0 _ (by omega) h0, z 1 _ (by omega) h1, z 2 _ (by omega) h2, z 3 _ (by omega) h3, z 4 _ (by omega) h4, z 5 _ (by omega) h5, z 6 _ (by omega) h6, z 7 _ (by omega) h7, z 8 _ (by omega) h8, z 9 _ (by omega) h9, z 10 _ (by omega) h10, z 11 _ (by omega) h11, z 12 _ (by omega) h12, nd _ _ ((in_idx (n := 12) (by decide)).mpr ⟨w, hw, rfl⟩)⟩
  have oneE : ∀ (V : Int32) (w : Nat) (W : Int32), w < 13 → V = W → (∀ k : Nat, k < 13 → k ≠ w → ¬ (w = k)) → True := fun _ _ _ _ _ _ => trivial
  unfold w_X6_count
  refine ⟨fun e => ⟨hT, ?_⟩, fun e => ⟨hT, ?_⟩, fun e => ⟨hT, ?_⟩, fun e => ⟨hT, ?_⟩, fun e => ⟨hT, ?_⟩, fun e => ⟨hT, ?_⟩, fun e => ⟨hT, ?_⟩, fun e => ⟨hT, ?_⟩, fun e => ⟨hT, ?_⟩, fun e => ⟨hT, ?_⟩, fun e => ⟨hT, ?_⟩, fun e => ⟨hT, ?_⟩, fun e => ⟨hT, ?_⟩, fun e => ?_⟩
  · subst e; exact one _ 0 (by omega) (by simp [rd 6 0 so_tk (by omega) (by omega)])
  · subst e; exact one _ 1 (by omega) (by simp [rs 0 (by omega)])
  · subst e; exact one _ 2 (by omega) (by simp [rs 1 (by omega)])
  · subst e; exact one _ 3 (by omega) (by simp [rs 2 (by omega)])
  · subst e; exact one _ 4 (by omega) (by simp [rd 5 4 so_q (by omega) (by omega)])
  · subst e
    have := c_freeTags (K := K) (R := R) (J := I) (b := t + 1) (ρ := rowB I (t + 1)) (σ := S.σ) (Q := fun v I1 => w_X7_count K R r 5 I1 (fun v' I2 => G v v' I2)) hB hS hC.2.1.2.2.1.1
    rw [stB_self] at this
    exact this (one _ 5 (by omega) (by simp))
  · subst e; exact one _ 6 (by omega) (by simp [rd 10 8 so_at (by omega) (by omega)])
  · subst e; exact one _ 7 (by omega) (by simp [rd 11 9 so_qt (by omega) (by omega)])
  · subst e; exact one _ 8 (by omega) (by simp [rd 12 10 so_rt (by omega) (by omega)])
  · subst e; exact one _ 9 (by omega) (by simp [rd 13 11 so_id (by omega) (by omega)])
  · subst e; exact one _ 10 (by omega) (by simp [rd 14 12 so_ov (by omega) (by omega)])
  · subst e; exact one _ 11 (by omega) (by simp [hC.2.2.2.2.2.1.2])
  · subst e; exact one _ 12 (by omega) (by simp [hC.2.2.2.2.2.2.2.2.2.2.1])
  · have nx : ∀ k : Nat, k < 13 → x ≠ nI k := fun k hk z => sw_no (n := 12) (by decide) e ((in_idx (by decide)).mpr ⟨k, hk, z⟩)
    exact start _ _ ⟨ne _ _ _ (nx 0 (by omega)), ne _ _ _ (nx 1 (by omega)), ne _ _ _ (nx 2 (by omega)), ne _ _ _ (nx 3 (by omega)), ne _ _ _ (nx 4 (by omega)), ne _ _ _ (nx 5 (by omega)), ne _ _ _ (nx 6 (by omega)), ne _ _ _ (nx 7 (by omega)), ne _ _ _ (nx 8 (by omega)), ne _ _ _ (nx 9 (by omega)), ne _ _ _ (nx 10 (by omega)), ne _ _ _ (nx 11 (by omega)), ne _ _ _ (nx 12 (by omega)), fun _ => hG _⟩
end CNT
