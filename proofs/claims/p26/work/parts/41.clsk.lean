def W3 (σ τ : Sr) : Prop := ∀ q, (τ (161 + 11 * q + 4) = 3 ↔ σ (161 + 11 * q + 4) = 3)
section CK0
variable {σ ρ : Sr}
theorem doOne_w {t k : Nat} (hS : InvS σ) (ht : t < 4) (hk : k < inN σ t) : W3 σ (doOne σ t k) := by
  obtain ⟨hn, en, hj⟩ := hS.lists ht
  obtain ⟨q1, q2, q3, ⟨a, ha, q4⟩, -⟩ := hj k hk
  intro q
  unfold doOne
  split
  · rename_i hc
    rw [ix_eq q4 (by omega)]
    by_cases hq : q = lsq σ t k
    · subst hq
      unfold doOn
      rw [su_s, hc.1]
      decide
    · rw [doOn_n (by omega) (by omega) (by omega)]
  · exact Iff.rfl
theorem doRow_w {t : Nat} (hS : InvS σ) (ht : t < 4) : ∀ k, k ≤ inN σ t → W3 σ (doRow σ t k)
  | 0, _ => fun _ => Iff.rfl
  | k + 1, hk => by
    obtain ⟨h1, h2⟩ := doRow_inv hS ht k (by omega)
    have hin : inN (doRow σ t k) t = inN σ t := by unfold inN; rw [h2 _ (by omega)]
    have a := doOne_w h1 ht (k := k) (by omega)
    exact fun q => (a q).trans (doRow_w hS ht k (by omega) q)
theorem doAllL_w (hS : InvS σ) : ∀ t, t ≤ 4 → W3 σ (doAllL σ t)
  | 0, _ => fun _ => Iff.rfl
  | t + 1, ht => by
    obtain ⟨h1, h2⟩ := doAllL_inv hS t (by omega)
    have a := doRow_w h1 (t := t) (by omega) _ (Nat.le_refl _)
    exact fun q => (a q).trans (doAllL_w hS t (by omega) q)
theorem doAll_rel {ρ' : Sr} (hR : RelB ρ σ) (hG : AgD ρ' (doAllS σ)) (hm : Same ρ ρ') : RelB ρ' (doAllS σ) := by
  obtain ⟨hS, hM, -, hL, hC⟩ := hR
  obtain ⟨h1, h2⟩ := doAllL_inv hS 4 (by omega)
  have h3 := doAllL_w hS 4 (by omega)
  refine ⟨h1, ?_, hG, ?_, hC.fr hS (fun k hk => hm.2 k hk) (h2 _ (by omega)) (h2 _ (by omega)) (fun k hk => h2 _ (by omega)) (fun q hq => h2 _ (by omega)) (fun q hq => h3 q) (fun q hq => h2 _ (by omega))⟩
  · show doAllL σ 4 2 = 0 ∨ _
    rw [show doAllS σ = doAllL σ 4 from rfl, h2 2 (by omega)]; exact hM
  · rw [show doAllS σ = doAllL σ 4 from rfl, h2 5 (by omega), hm.1]; exact hL
theorem wait_rel {ρ' : Sr} {k : Int32} {g : Option Nat} (hR : RelB ρ σ) (hf : ∀ s, s ≠ 11 → (∀ j, j < 4 → s ≠ 21 + 11 * j + 10) → ρ' s = ρ s) (hG : Ag ρ' (waitS (idleS σ k) k g 4) (ix (σ 4))) : RelB (su ρ' 0 (ρ' 0 + 1)) (tickT σ k g) := by
  obtain ⟨hS, hM, ⟨g1, g2⟩, hL, hC⟩ := hR
  obtain ⟨hA4, hA⟩ := hS.A4
  have hn : ∀ s, s ≠ 0 → s ≠ 11 → (∀ j, j < 4 → s ≠ 21 + 11 * j + 10) → tickT σ k g s = σ s := fun s a b c => tickT_n a b c
  have hA' : tickT σ k g 4 = σ 4 := hn _ (by omega) (by omega) (fun j hj => by omega)
  have hc : ∀ s, s ≠ 0 → s ≠ 11 → (∀ j, j < 4 → s ≠ 21 + 11 * j + 10) → su ρ' 0 (ρ' 0 + 1) s = ρ s := fun s a b c => by rw [su_n a, hf s b c]
  refine ⟨tickT_inv hS k g, by rw [hn _ (by omega) (by omega) (fun j hj => by omega)]; exact hM, ⟨?_, ?_⟩, ?_, hC.fr hS (fun j hj => hc j (by omega) (by omega) (fun j hj => by omega)) (hn _ (by omega) (by omega) (fun j hj => by omega)) hA' (fun j hj => hn _ (by omega) (by omega) (fun j hj => by omega)) (fun q hq => hn _ (by omega) (by omega) (fun j hj => by omega)) (fun q hq => by rw [hn _ (by omega) (by omega) (fun j hj => by omega)]) (fun q hq => hn _ (by omega) (by omega) (fun j hj => by omega))⟩
  · rw [hA']
    unfold tickT
    rw [← hG 0 (by omega) (by omega) (by omega)]
    exact hG.both
  · rw [hA']
    refine g2.fr (fun q hq ho => ⟨?_, hc _ (by omega) (by omega) (fun j hj => by omega), hn _ (by omega) (by omega) (fun j hj => by omega)⟩)
    unfold OnT at ho ⊢
    rw [hn _ (by omega) (by omega) (fun j hj => by omega)] at ho
    exact ho
  · rw [hn 5 (by omega) (by omega) (fun j hj => by omega), hc 5 (by omega) (by omega) (fun j hj => by omega)]
    exact hL
theorem goneS_q0 {m : Nat} (hS : InvS σ) (hm : m < 4) (h1 : 1 ≤ loN σ m) (hf : (freeO σ).isSome = true) (hfu : ¬ full σ (tgt0 σ m)) : goneS σ m (161 + 11 * rwq σ m 0 + 0) = nI m ∧ goneS σ m 4 = σ 4 := by
  obtain ⟨hn, en, hl⟩ := hS.rows hm
  obtain ⟨p1, p2, p3, p4, p5, p6, p7⟩ := hl 0 (by omega)
  obtain ⟨ht, et⟩ := tgt0_ok hS hm h1
  have hin := full_not hS ht hfu
  obtain ⟨g, hg⟩ := Option.isSome_iff_exists.mp hf
  obtain ⟨f1, f2⟩ := freeO_lt hg
  obtain ⟨hT, -, hT8⟩ := hS.T1
  have hlh : loN (sndHead σ m) m = loN σ m := by unfold loN; rw [sndHead_n (by omega)]
  rw [goneS_eq hg]
  have hr : ∀ s, s ≠ 5 ∧ s ≠ 7 → (s < 21 + 11 * m ∨ 21 + 11 * m + 7 ≤ s) → remR (sndHead σ m) m s = σ s := fun s a b => by rw [remR_n (by omega) b, sndHead_n a]
  have hi0 : inN (sndQ0 (remR (sndHead σ m) m) m (rwq σ m 0) (tgt0 σ m) g) (tgt0 σ m) = inN σ (tgt0 σ m) := by unfold inN; rw [sndQ0_n (by omega), hr _ (by omega) (by omega)]
  exact ⟨by rw [sndQ_n (by omega) (by omega) (by omega), hr _ (by omega) (by omega)]; exact p5, by rw [sndQ_n (by omega) (by omega) (by omega), hr _ (by omega) (by omega)]⟩
end CK0
section CK
variable {K : MK} {R : MR} {I J : MI} {b : Nat} {σ ρ : Sr}
theorem idleS_no {k : Int32} (h : k ≠ -5) : idleS σ k = σ := by
  unfold idleS
  rw [if_neg h, i32_add0, su_id]
theorem c_end {Q : Int32 → MI → Prop} {y x k : Int32} {g : Option Nat} {ρ2 : Sr} (hB : IsBus K R b) (hR : RelB ρ σ) (h2 : ∀ s, s ≠ 11 → ρ2 s = ρ s) (hG : Ag ρ2 (idleS σ k) (ix (σ 4))) (hx : ∀ m, m < 4 → (nI m = x ↔ (k = 0 ∧ nI m = oI g))) (h : ∀ ρ', RelB ρ' (tickT σ k g) → ρ' 5 = ρ 5 → Q y (stB J b ρ')) : w_X0_passTick_b56 K R b Q y x (stB J b ρ2) := by
  have hS := hR.1
  have hS1 : InvS (idleS σ k) := hS.fr (fun s hs => by unfold idleS; exact su_n (by unfold isStr at hs; omega)) (fun q => Or.inl (by unfold idleS; exact su_n (by omega)))
  have h4 : idleS σ k 4 = σ 4 := by unfold idleS; rw [su_n (by omega)]
  unfold w_X0_passTick_b56
  refine ⟨hB, c_waits hB hS1 (k := k) (g := g) (by rw [h4]; exact hG) hx (fun ρ' hf hg => ?_)⟩
  rw [h4] at hg
  simp only [← Nat.add_assoc, true_and, and_true, true_implies, forall_eq, forall_eq', not_true, not_false_iff, false_implies, Option.some.injEq, reduceCtorEq, exists_eq_left', implies_true, nl_1, nr_1, ix_nI, vpT, r_b_q, u_b_q, r_b_tk, u_b_tk, r_b_lt, u_b_lt, r_b_tm, u_b_tm, r_b_tt, u_b_tt, r_b_at, u_b_at, r_b_qt, u_b_qt, r_b_rt, u_b_rt, r_b_id, u_b_id, r_b_ov, u_b_ov, r_set0, u_set0, r_set1, u_set1, r_set2, u_set2, r_lent, u_lent, r_m1, u_m1, r_m2, u_m2, r_m3, u_m3, r_m4, u_m4, r_m5, u_m5, r_m6, u_m6, r_m7, u_m7, r_ml, u_ml, r_mr, u_mr, r_tc, u_tc, r_tn0, u_tn0, r_tn1, u_tn1, r_tn2, u_tn2, r_tl, u_tl, r_tr, u_tr, r_w0, u_w0, r_w1, u_w1, r_w2, u_w2, r_w3, u_w3, r_w4, u_w4, r_w5, u_w5, r_w6, u_w6, r_w7, u_w7, r_w8, u_w8, r_w9, u_w9, r_wa, u_wa]
  exact h _ (wait_rel hR (fun s a c => by rw [hf s c, h2 s a]) hg) (by rw [su_n (by omega), hf 5 (fun j hj => by omega), h2 5 (by omega)])
theorem tripQ_K (hS : InvS σ) : tripQ σ = -5 ↔ tripK σ = -5 := by
  unfold tripQ tripK
  by_cases hi : isAns σ = true
  · rw [if_pos hi, if_pos hi]
    have hi2 := hi
    unfold isAns at hi2
    simp only [Bool.and_eq_true] at hi2
    obtain ⟨t, ht⟩ := Option.isSome_iff_exists.mp hi2.1
    obtain ⟨p, hp⟩ := tgtO_ans ht
    have ht4 := tgtO_lt ht
    rw [ht]
    simp only [hp]
    have hq := ((hS.lists ht4).2.2 p (ansO_lt hp)).1
    exact ⟨fun z => absurd z (nI_ne5 (by omega)), fun z => absurd z (by decide)⟩
  · rw [if_neg hi, if_neg hi]
    cases hm : mstO σ with
    | none => exact Iff.rfl
    | some m =>
      have hm4 := mstO_lt hm
      obtain ⟨g1, g2⟩ := canB_ok (mstO_can hm)
      have hq := ((hS.rows hm4).2.2 0 (by omega)).1
      refine ⟨fun z => absurd z (nI_ne5 (by omega)), fun z => ?_⟩
      exfalso
      simp only at z
      split at z <;> exact absurd z (by decide)
theorem c_tick {Q : Int32 → MI → Prop} (hB : IsBus K R b) (hR : RelB ρ σ) (h : ∀ ρ', RelB ρ' (tickS σ) → (tickK σ ≠ -5 → ρ' 5 = tickK σ) → Q (tickQ σ) (stB J b ρ')) : w_X0_passTick K R b (stB J b ρ) Q := by
  have hS := hR.1
  unfold w_X0_passTick
  refine ⟨hB, c_finish hB hS hR.2.2.1 (fun ρ1 hG1 hm1 => ?_)⟩
  have hR1 := doAll_rel hR hG1 hm1
  unfold tickS tickK tickQ at h
  generalize doAllS σ = υ at *
  have hQK := tripQ_K hR1.1
  refine c_makeTrip hB hR1 (fun ρ2 hR2 hK => ?_)
  obtain ⟨hA4, hA⟩ := hR2.1.A4
  have h' : ∀ ρ', RelB ρ' (tickT (tripS υ) (tripK υ) (mstO υ)) → ρ' 5 = ρ2 5 → Q (tripQ υ) (stB J b ρ') := fun ρ' a c => h ρ' a (fun hk => by rw [c]; exact hK hk)
  refine ⟨fun c => ?_, fun c => ?_⟩
  · have hk5 : tripK υ ≠ -5 := fun z => c (hQK.mpr z)
    have hk := hK hk5
    have hG2 : Ag ρ2 (idleS (tripS υ) (tripK υ)) (ix (tripS υ 4)) := by rw [idleS_no hk5]; exact hR2.2.2.1.1
    unfold w_X0_passTick_b25 w_X0_passTick_b41
    simp only [← Nat.add_assoc, true_and, and_true, true_implies, forall_eq, forall_eq', not_true, not_false_iff, false_implies, Option.some.injEq, reduceCtorEq, exists_eq_left', implies_true, nl_1, nr_1, ix_nI, vpT, r_b_q, u_b_q, r_b_tk, u_b_tk, r_b_lt, u_b_lt, r_b_tm, u_b_tm, r_b_tt, u_b_tt, r_b_at, u_b_at, r_b_qt, u_b_qt, r_b_rt, u_b_rt, r_b_id, u_b_id, r_b_ov, u_b_ov, r_set0, u_set0, r_set1, u_set1, r_set2, u_set2, r_lent, u_lent, r_m1, u_m1, r_m2, u_m2, r_m3, u_m3, r_m4, u_m4, r_m5, u_m5, r_m6, u_m6, r_m7, u_m7, r_ml, u_ml, r_mr, u_mr, r_tc, u_tc, r_tn0, u_tn0, r_tn1, u_tn1, r_tn2, u_tn2, r_tl, u_tl, r_tr, u_tr, r_w0, u_w0, r_w1, u_w1, r_w2, u_w2, r_w3, u_w3, r_w4, u_w4, r_w5, u_w5, r_w6, u_w6, r_w7, u_w7, r_w8, u_w8, r_w9, u_w9, r_wa, u_wa, hk]
    refine ⟨hB, fun d => c_end hB hR2 (fun s _ => rfl) hG2 (fun m hm => ⟨fun z => absurd z (nI_ne5 (by omega)), fun z => absurd z.1 d⟩) h', fun d => ?_⟩
    have hna : ¬ isAns υ = true := fun z => by
      unfold tripK at d
      rw [if_pos z] at d
      exact absurd d (by decide)
    cases hm : mstO υ with
    | none =>
      unfold tripK at hk5
      rw [if_neg hna, hm] at hk5
      exact absurd rfl hk5
    | some m =>
      have hm4 := mstO_lt hm
      obtain ⟨g1, g2⟩ := canB_ok (mstO_can hm)
      obtain ⟨p1, p2, p3, p4, p5, p6, p7⟩ := (hR1.1.rows hm4).2.2 0 (by omega)
      have hfu : ¬ full υ (tgt0 υ m) := fun z => by
        unfold tripK at d
        rw [if_neg hna, hm] at d
        simp only [if_pos z] at d
        exact absurd d (by decide)
      obtain ⟨q0, q4⟩ := goneS_q0 hR1.1 hm4 g1 g2 hfu
      have hQ : tripQ υ = nI (rwq υ m 0) := by unfold tripQ; rw [if_neg hna, hm]
      have hT : tripS υ = goneS υ m := by unfold tripS; rw [if_neg hna, hm]; simp only [if_neg hfu]
      rw [hQ] at h' ⊢
      have hqA : rwq υ m 0 < ix (tripS υ 4) := by rw [hT, q4]; exact p2
      have e4 : ρ2 4 = nI (ix (tripS υ 4)) := by rw [hR2.2.2.1.1 4 (by omega) (by omega) (by omega)]; exact hA4
      have e0 : ρ2 (161 + 11 * rwq υ m 0 + 0) = nI m := by rw [hR2.2.2.1.1.d hqA (by omega), hT]; exact q0
      refine c_questionAt hB (A := ix (tripS υ 4)) (by simp only [← Nat.add_assoc, true_and, and_true, true_implies, forall_eq, forall_eq', not_true, not_false_iff, false_implies, Option.some.injEq, reduceCtorEq, exists_eq_left', implies_true, nl_1, nr_1, ix_nI, vpT, r_b_q, u_b_q, r_b_tk, u_b_tk, r_b_lt, u_b_lt, r_b_tm, u_b_tm, r_b_tt, u_b_tt, r_b_at, u_b_at, r_b_qt, u_b_qt, r_b_rt, u_b_rt, r_b_id, u_b_id, r_b_ov, u_b_ov, r_set0, u_set0, r_set1, u_set1, r_set2, u_set2, r_lent, u_lent, r_m1, u_m1, r_m2, u_m2, r_m3, u_m3, r_m4, u_m4, r_m5, u_m5, r_m6, u_m6, r_m7, u_m7, r_ml, u_ml, r_mr, u_mr, r_tc, u_tc, r_tn0, u_tn0, r_tn1, u_tn1, r_tn2, u_tn2, r_tl, u_tl, r_tr, u_tr, r_w0, u_w0, r_w1, u_w1, r_w2, u_w2, r_w3, u_w3, r_w4, u_w4, r_w5, u_w5, r_w6, u_w6, r_w7, u_w7, r_w8, u_w8, r_w9, u_w9, r_wa, u_wa, e4]) hA hqA ?_
      simp (disch := omega) only [← Nat.add_assoc, true_and, and_true, true_implies, forall_eq, forall_eq', not_true, not_false_iff, false_implies, Option.some.injEq, reduceCtorEq, exists_eq_left', implies_true, nl_1, nr_1, ix_nI, vpT, r_b_q, u_b_q, r_b_tk, u_b_tk, r_b_lt, u_b_lt, r_b_tm, u_b_tm, r_b_tt, u_b_tt, r_b_at, u_b_at, r_b_qt, u_b_qt, r_b_rt, u_b_rt, r_b_id, u_b_id, r_b_ov, u_b_ov, r_set0, u_set0, r_set1, u_set1, r_set2, u_set2, r_lent, u_lent, r_m1, u_m1, r_m2, u_m2, r_m3, u_m3, r_m4, u_m4, r_m5, u_m5, r_m6, u_m6, r_m7, u_m7, r_ml, u_ml, r_mr, u_mr, r_tc, u_tc, r_tn0, u_tn0, r_tn1, u_tn1, r_tn2, u_tn2, r_tl, u_tl, r_tr, u_tr, r_w0, u_w0, r_w1, u_w1, r_w2, u_w2, r_w3, u_w3, r_w4, u_w4, r_w5, u_w5, r_w6, u_w6, r_w7, u_w7, r_w8, u_w8, r_w9, u_w9, r_wa, u_wa, e0]
      refine ⟨hB.p4 p1, c_end hB hR2 (fun s _ => rfl) hG2 (fun m' hm' => ⟨fun z => ⟨d, by rw [hm]; exact z⟩, fun z => by rw [hm] at z; exact z.2⟩) h'⟩
  · have hk5 := hQK.mp c
    have hG2 : Ag (su ρ2 11 (ρ2 11 + 1)) (idleS (tripS υ) (tripK υ)) (ix (tripS υ 4)) := by
      unfold idleS
      rw [if_pos hk5, ← hR2.2.2.1.1 11 (by omega) (by omega) (by omega)]
      exact hR2.2.2.1.1.both
    have fin := c_end (y := tripQ υ) (J := J) (x := -5) hB hR2 (fun s hs => su_n hs) hG2 (fun m hm => ⟨fun z => absurd z (nI_ne5 (by omega)), fun z => by rw [hk5] at z; exact absurd z.1 (by decide)⟩) h'
    unfold w_X0_passTick_b25 w_X0_passTick_b41
    simp only [← Nat.add_assoc, true_and, and_true, true_implies, forall_eq, forall_eq', not_true, not_false_iff, false_implies, Option.some.injEq, reduceCtorEq, exists_eq_left', implies_true, nl_1, nr_1, ix_nI, vpT, r_b_q, u_b_q, r_b_tk, u_b_tk, r_b_lt, u_b_lt, r_b_tm, u_b_tm, r_b_tt, u_b_tt, r_b_at, u_b_at, r_b_qt, u_b_qt, r_b_rt, u_b_rt, r_b_id, u_b_id, r_b_ov, u_b_ov, r_set0, u_set0, r_set1, u_set1, r_set2, u_set2, r_lent, u_lent, r_m1, u_m1, r_m2, u_m2, r_m3, u_m3, r_m4, u_m4, r_m5, u_m5, r_m6, u_m6, r_m7, u_m7, r_ml, u_ml, r_mr, u_mr, r_tc, u_tc, r_tn0, u_tn0, r_tn1, u_tn1, r_tn2, u_tn2, r_tl, u_tl, r_tr, u_tr, r_w0, u_w0, r_w1, u_w1, r_w2, u_w2, r_w3, u_w3, r_w4, u_w4, r_w5, u_w5, r_w6, u_w6, r_w7, u_w7, r_w8, u_w8, r_w9, u_w9, r_wa, u_wa]
    refine ⟨hB, fun _ => fin, fun _ => ?_⟩
    rw [c] at fin ⊢
    exact c_questionNo hB ⟨fun _ => fin, fun r4 z => by cases z⟩
end CK
