theorem full_not {σ : Sr} (hS : InvS σ) {t : Nat} (ht : t < 4) (h : ¬ full σ t) : inN σ t < 4 := by
  obtain ⟨T, A, a1, a2, a3, a4, a5, a6, a7, a8, a9, a10, a11⟩ := hS
  obtain ⟨n, rm, hn, e, r1, r2, r3, -⟩ := a10 t ht
  have en : inN σ t = n := ix_eq e (by omega)
  unfold full at h
  rw [Classical.not_not, e, r3] at h
  have := (nI_ltI (by omega) (by omega)).mp h
  omega
theorem tgt0_ok {σ : Sr} (hS : InvS σ) {m : Nat} (hm : m < 4) (h1 : 1 ≤ loN σ m) : tgt0 σ m < 4 ∧ σ (161 + 11 * rwq σ m 0 + 1) = nI (tgt0 σ m) := by
  obtain ⟨hn, en, hl⟩ := hS.rows hm
  obtain ⟨p1, p2, p3, p4, p5, ⟨-, ⟨t, ht, e⟩, -⟩, p7⟩ := hl 0 (by omega)
  unfold tgt0
  rw [ix_eq e (by omega)]
  exact ⟨ht, e⟩
theorem goneS_inv {σ : Sr} (hS : InvS σ) {m : Nat} (hm : m < 4) (h1 : 1 ≤ loN σ m) (hf : (freeO σ).isSome = true) (hfu : ¬ full σ (tgt0 σ m)) : InvS (goneS σ m) := by
  obtain ⟨hn, en, hl⟩ := hS.rows hm
  obtain ⟨p1, p2, p3, p4, p5, p6, p7⟩ := hl 0 (by omega)
  obtain ⟨ht, et⟩ := tgt0_ok hS hm h1
  have hin := full_not hS ht hfu
  have hh := sndHead_inv hS m
  have hlo : loN (sndHead σ m) m = loN σ m := by unfold loN; rw [sndHead_n (by omega)]
  have hrq : rwq (sndHead σ m) m 0 = rwq σ m 0 := by unfold rwq; rw [sndHead_n (by omega)]
  obtain ⟨r1, r2⟩ := remR_inv hh hm (by omega)
  have hfh := freeO_head (σ := σ) (m := m)
  cases hfo : freeO σ with
  | none => rw [hfo] at hf; cases hf
  | some g =>
    obtain ⟨g1, g2⟩ := freeO_lt hfo
    unfold goneS
    rw [hfh, hfo]
    show InvS (sndQ (remR (sndHead σ m) m) m (rwq σ m 0) (tgt0 σ m) g)
    have hrr : ∀ s, s < 21 + 11 * m ∨ 21 + 11 * m + 7 ≤ s → remR (sndHead σ m) m s = sndHead σ m s := fun s h => remR_n (by omega) h
    have hT : Tg_ σ ≤ 8 := by
      obtain ⟨T, e1, e2, e3⟩ := hS.T
      have : Tg_ σ = T := ix_eq e1 (by omega)
      omega
    rw [hrq] at r2
    have s1 := sndQ0_inv r1 (m := m) (q := rwq σ m 0) (t := tgt0 σ m) (g := g) hm (by rw [hrr _ (by omega), sndHead_n (by omega)]; exact p2) (by unfold Tg_; rw [hrr _ (by omega), sndHead_n (by omega)]; exact g1) (by rw [hrr _ (by omega), sndHead_n (by omega)]; exact g2) (by rw [hrr _ (by omega), sndHead_n (by omega)]; exact p4) r2
    have hs0 : ∀ s, (s ≠ 5 ∧ s ≠ 7) → (s < 21 + 11 * m ∨ 21 + 11 * m + 7 ≤ s) → (s ≠ 21 + 11 * m + 8 ∧ s ≠ 13 + g ∧ s ≠ 161 + 11 * rwq σ m 0 + 5 ∧ s ≠ 161 + 11 * rwq σ m 0 + 4 ∧ s ≠ 161 + 11 * rwq σ m 0 + 10) → sndQ0 (remR (sndHead σ m) m) m (rwq σ m 0) (tgt0 σ m) g s = σ s := fun s a b c => by rw [sndQ0_n c, hrr s b, sndHead_n a]
    have hi0 : inN (sndQ0 (remR (sndHead σ m) m) m (rwq σ m 0) (tgt0 σ m) g) (tgt0 σ m) = inN σ (tgt0 σ m) := by unfold inN; rw [hs0 _ (by omega) (by omega) (by omega)]
    have s2 := appL_inv s1 (t := tgt0 σ m) (q := rwq σ m 0) (g := g) ht (by rw [hs0 _ (by omega) (by omega) (by omega)]; exact p2) (by omega) (Or.inl (by unfold sndQ0 sndQa; rw [su_n (by omega), su_s])) (by rw [hs0 _ (by omega) (by omega) (by omega)]; exact et) (by omega) (by unfold sndQ0 sndQa; rw [su_n (by omega), su_n (by omega), su_s]) (by unfold sndQ0 sndQa; rw [su_n (by omega), su_n (by omega), su_n (by omega), su_s]) (fun j hj => by
      obtain ⟨-, -, hll⟩ := hS.lists ht
      obtain ⟨w1, w2, w3, -⟩ := hll j (by omega)
      rw [hs0 _ (by omega) (by omega) (by omega), w2]
      intro z
      have z2 := nI_inj (by omega) (by omega) z
      rw [z2] at w3
      unfold OnT at w3
      rw [p4] at w3
      rcases w3 with w3 | w3 <;> exact absurd w3 (by decide))
    unfold sndQ
    exact s2.fr (fun k hk => su_n (by unfold isStr at hk; omega)) (fun q => Or.inl (su_n (by omega)))
theorem backS_inv {σ : Sr} (hS : InvS σ) {m : Nat} (hm : m < 4) : InvS (backS σ m) := refS_inv (sndHead_inv hS m) hm
section REF6
variable {K : MK} {R : MR} {I : MI} {r : Nat} {σ : Sr}
theorem ref_sends {Q : Int32 → MI → Prop} {m : Nat} (hM : IsModel K R r) (hS : InvS σ) (hm : m < 4) (h1 : 1 ≤ loN σ m) (hf : (freeO σ).isSome = true) (h2 : full σ (tgt0 σ m) → Q 2 (stS (upI I r 12 (nI (rwq σ m 0))) r (backS σ m))) (h0 : ¬ full σ (tgt0 σ m) → Q 0 (stS (upI I r 12 (nI (rwq σ m 0))) r (goneS σ m))) : w_X7_sends K R r (nI m) (stS I r σ) Q := by
  obtain ⟨hn, en, hl⟩ := hS.rows hm
  obtain ⟨p1, p2, p3, p4, p5, p6, p7⟩ := hl 0 (by omega)
  rw [Nat.add_zero] at p3
  obtain ⟨ht, et⟩ := tgt0_ok hS hm h1
  have hA := hS.A
  unfold w_X7_sends w_X7_sends_b158
  simp (disch := omega) only [← Nat.add_assoc, stS_s, up_s, true_and, and_true, true_implies, forall_eq, not_true, not_false_iff, false_implies, of_l0, of_l1, of_l2, of_l3, of_l4, of_l5, of_l6, of_l7, of_l8, of_l9, of_l10, ofM_l0, ofM_l1, ofM_l2, ofM_l3, ofM_l4, ofM_l5, ofM_l6, ofM_l7, ofM_l8, ofM_l9, ofM_l10, ofT_l16, ofT_l17, ofT_l18, ofT_l19, ofT_l20, of_n, ofM_n, ofT_n, nl_1, nl_8, nl_13, nl_16, nl_20, nl_2361, nr_1, ix_nI, vpT, p3, et, up_r]
  rw [nI_t4 (a := m) (k := 1) (by omega)]
  refine ⟨hM, fun c => ?_, fun c => ?_⟩
  · have c' : ¬ full σ (tgt0 σ m) := by
      unfold full
      rw [Classical.not_not]
      rw [su_n (by omega), su_n (by omega), su_n (by omega), su_n (by omega)] at c
      exact c
    have h := h0 c'
    have hin := full_not hS ht c'
    refine ref_freeTag hM (sndHead_inv hS m).T ?_
    rw [show su (su σ 7 (nI (t4 m 1))) 5 0 = sndHead σ m from rfl] at *
    have hfh := freeO_head (σ := σ) (m := m)
    cases hfo : freeO σ with
    | none => rw [hfo] at hf; cases hf
    | some g =>
      obtain ⟨g1, g2⟩ := freeO_lt hfo
      have hT : Tg_ σ ≤ 8 := by
        obtain ⟨T, e1, e2, e3⟩ := hS.T
        have : Tg_ σ = T := ix_eq e1 (by omega)
        omega
      unfold goneS at h
      rw [hfh, hfo] at h ⊢
      simp only [Option.getD_some] at h
      simp only [oI]
      have hh := sndHead_inv hS m
      have hlo : loN (sndHead σ m) m = loN σ m := by unfold loN; rw [sndHead_n (by omega)]
      have hi0 : inN (sndHead σ m) (tgt0 σ m) = inN σ (tgt0 σ m) := by unfold inN; rw [sndHead_n (by omega)]
      obtain ⟨hn2, en2, -⟩ := hh.rows hm
      obtain ⟨hi1, hi2, -⟩ := hh.lists ht
      have ha0 := (hh.rows hm).2.2 0 (by omega)
      have hrq : rwq (sndHead σ m) m 0 = rwq σ m 0 := by unfold rwq; rw [sndHead_n (by omega)]
      rw [hrq] at ha0
      generalize upI I r 12 (nI (rwq σ m 0)) = J at h ⊢
      generalize sndHead σ m = τ at *
      generalize rwq σ m 0 = q at *
      generalize tgt0 σ m = t at *
      unfold w_X7_sends_b171
      intro X hX
      have key : ∀ d i, i + d = loN τ m - 1 → X (nI q) (nI t) (nI g) (nI i) (stS J r (shf τ (21 + 11 * m + 1) 0 i)) := by
        intro d
        induction d with
        | zero =>
          intro i hi
          refine hX _ _ _ _ _ ?_
          have hle : loN τ m ≤ i + 1 := by omega
          have hz : shf τ (21 + 11 * m + 1) 0 i (21 + 11 * m + 0) = nI (loN τ m) := by
            rw [shf_out _ (fun j h1 h2 => by omega)]
            exact en2
          have hi3 : i = loN τ m - 1 := by omega
          have hrem : remR τ m = su (shf τ (21 + 11 * m + 1) 0 i) (21 + 11 * m + 0) (nI (loN τ m) - 1) := by unfold remR; rw [← hi3, hz]
          unfold w_X7_sends_b171_body
          simp (disch := omega) only [← Nat.add_assoc, stS_s, up_s, true_and, and_true, true_implies, forall_eq, not_true, not_false_iff, false_implies, of_l0, of_l1, of_l2, of_l3, of_l4, of_l5, of_l6, of_l7, of_l8, of_l9, of_l10, ofM_l0, ofM_l1, ofM_l2, ofM_l3, ofM_l4, ofM_l5, ofM_l6, ofM_l7, ofM_l8, ofM_l9, ofM_l10, ofT_l16, ofT_l17, ofT_l18, ofT_l19, ofT_l20, of_n, ofM_n, ofT_n, nl_1, nl_8, nl_13, nl_16, nl_20, nl_2361, nr_1, ix_nI, vpT, hz, nI_leI', hle]
          rw [hrem] at h
          have hin2 : su (shf τ (21 + 11 * m + 1) 0 i) (21 + 11 * m + 0) (nI (loN τ m) - 1) (65 + 24 * t + 19) = nI (inN τ t) := by
            rw [su_n (by omega), shf_out _ (fun j h1 h2 => by omega)]
            exact hi2
          generalize su (shf τ (21 + 11 * m + 1) 0 i) (21 + 11 * m + 0) (nI (loN τ m) - 1) = ρ at h hin2 ⊢
          have hin3 : sndQ0 ρ m q t g (65 + 24 * t + 19) = nI (inN τ t) := by rw [sndQ0_n (by omega)]; exact hin2
          have hin4 : inN (sndQ0 ρ m q t g) t = inN τ t := ix_eq hin3 (by omega)
          rw [show su (su (su (su ρ (21 + 11 * m + 8) 0) (13 + g) (nI q)) (161 + 11 * q + 5) (nI g)) (161 + 11 * q + 4) 1 = sndQa ρ m q g from rfl]
          rw [show su (sndQa ρ m q g) (161 + 11 * q + 10) (sndQa ρ m q g 0 + sndQa ρ m q g (65 + 24 * t + 17) + (sndQa ρ m q g (161 + 11 * q + 2) - sndQa ρ m q g (161 + 11 * q + 2) / 4 * 4)) = sndQ0 ρ m q t g from rfl]
          unfold sndQ appL at h
          rw [hin4] at h
          simp (disch := omega) only [← Nat.add_assoc, stS_s, up_s, true_and, and_true, true_implies, forall_eq, not_true, not_false_iff, false_implies, of_l0, of_l1, of_l2, of_l3, of_l4, of_l5, of_l6, of_l7, of_l8, of_l9, of_l10, ofM_l0, ofM_l1, ofM_l2, ofM_l3, ofM_l4, ofM_l5, ofM_l6, ofM_l7, ofM_l8, ofM_l9, ofM_l10, ofT_l16, ofT_l17, ofT_l18, ofT_l19, ofT_l20, of_n, ofM_n, ofT_n, nl_1, nl_8, nl_13, nl_16, nl_20, nl_2361, nr_1, ix_nI, vpT, hin3]
          exact ⟨hM, h⟩
        | succ d ih =>
          intro i hi
          refine hX _ _ _ _ _ ?_
          have hle : ¬ loN τ m ≤ i + 1 := by omega
          have hz : shf τ (21 + 11 * m + 1) 0 i (21 + 11 * m + 0) = nI (loN τ m) := by
            rw [shf_out _ (fun j h1 h2 => by omega)]
            exact en2
          have ih1 := ih (i + 1) (by omega)
          unfold shf at ih1
          unfold w_X7_sends_b171_body
          simp (disch := omega) only [← Nat.add_assoc, stS_s, up_s, true_and, and_true, true_implies, forall_eq, not_true, not_false_iff, false_implies, of_l0, of_l1, of_l2, of_l3, of_l4, of_l5, of_l6, of_l7, of_l8, of_l9, of_l10, ofM_l0, ofM_l1, ofM_l2, ofM_l3, ofM_l4, ofM_l5, ofM_l6, ofM_l7, ofM_l8, ofM_l9, ofM_l10, ofT_l16, ofT_l17, ofT_l18, ofT_l19, ofT_l20, of_n, ofM_n, ofT_n, nl_1, nl_8, nl_13, nl_16, nl_20, nl_2361, nr_1, ix_nI, vpT, hz, nI_leI', hle, Nat.zero_add] at ih1 ⊢
          exact ⟨hM, ih1⟩
      exact key (loN τ m - 1) 0 (by omega)
  · have c' : full σ (tgt0 σ m) := by
      unfold full
      rw [su_n (by omega), su_n (by omega), su_n (by omega), su_n (by omega)] at c
      exact c
    have h := h2 c'
    unfold backS refS refS2 refS1 sndHead at h
    refine ⟨fun d => ⟨hM, ?_⟩, fun d => ⟨hM, ?_⟩⟩
    · rw [if_pos d] at h
      exact h
    · rw [if_neg d] at h
      exact h
end REF6
