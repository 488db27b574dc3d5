section PTJ
variable {σ : Sr}
/-- a question is put behind a row -/
theorem put_J {m A L : Nat} {x1 x2 x3 : Int32} (hS : InvS σ) (h : JJ σ) (hA : ix (σ 4) = A) (hA2 : A < 200) (hm : m < 4) (hL : loN σ m = L) (hL6 : L < 6) (hx : -5 ≤ x3) : JJ (putS σ m A L x1 x2 x3) := by
  obtain ⟨g1, g2, g3, c1, c2, c3, c4, c5⟩ := h
  rw [hA] at c2 c3 c4 c5
  have hN : ∀ s, (s < 161 + 11 * A ∨ 161 + 11 * A + 11 ≤ s) → (s ≠ 4 ∧ s ≠ 21 + 11 * m + 0 ∧ s ≠ 21 + 11 * m + 1 + L) → putS σ m A L x1 x2 x3 s = σ s := fun s a c => putS_n a c
  have s4 : putS σ m A L x1 x2 x3 4 = nI (A + 1) := by unfold putS; rw [su_s]
  have sl : putS σ m A L x1 x2 x3 (21 + 11 * m + 0) = nI (L + 1) := by unfold putS; rw [su_n (by omega), su_s]
  have sr : putS σ m A L x1 x2 x3 (21 + 11 * m + 1 + L) = nI A := by unfold putS; rw [su_n (by omega), su_n (by omega), su_s]
  have w4 : putS σ m A L x1 x2 x3 (161 + 11 * A + 4) = 0 := by rw [putS_w hm hL6 (by omega), putQ_w4]
  have w3 : putS σ m A L x1 x2 x3 (161 + 11 * A + 3) = x3 := by
    rw [putS_w hm hL6 (by omega)]
    unfold putQ
    rw [su_n (by omega), su_n (by omega), su_n (by omega), su_n (by omega), su_s]
  have w9 : putS σ m A L x1 x2 x3 (161 + 11 * A + 9) = 0 := by
    unfold putS
    rw [su_n (by omega), su_n (by omega), su_n (by omega), su_n (by omega), su_s]
  generalize putS σ m A L x1 x2 x3 = τ at *
  have e4 : ix (τ 4) = A + 1 := ix_eq s4 (by omega)
  have hlm : loN τ m = L + 1 := ix_eq sl (by omega)
  have hlo : ∀ m', m' < 4 → m' ≠ m → loN τ m' = loN σ m' := fun m' a b => loN_of (hN _ (by omega) (by omega))
  refine ⟨fun s hs => ?_, fun k' hk hne => ?_, fun m' hm' j hj => ?_, ?_, ?_, ?_, ?_, ?_⟩
  · by_cases c : s = 161 + 11 * A + 3
    · rw [c, w3]; exact hx
    · rw [hN s (by unfold isV at hs; omega) (by unfold isV at hs; omega)]
      exact g1 s hs
  · have ek : τ (13 + k') = σ (13 + k') := hN _ (by omega) (by omega)
    rw [ek] at hne ⊢
    obtain ⟨q', r1, r2, r3, r4⟩ := g2 k' hk hne
    rw [hA] at r1
    refine ⟨q', by omega, r2, by rw [hN _ (by omega) (by omega)]; exact r3, ?_⟩
    unfold OnT at r4 ⊢
    rw [hN _ (by omega) (by omega)]
    exact r4
  · have hr6 := hS.rows hm'
    by_cases e : m' = m
    · subst e
      rw [hlm] at hj
      have e1 : rwq τ m' j = rwq σ m' j := rwq_of (hN _ (by omega) (by omega))
      by_cases c : j + 1 < L
      · have := g3 m' hm' j (by omega)
        rw [e1, rwq_of (σ := σ) (k := j + 1) (hN _ (by omega) (by omega))]
        exact this
      · have hj1 : j + 1 = L := by omega
        have e2 : rwq τ m' (j + 1) = A := by
          rw [hj1]
          exact ix_eq sr (by omega)
        have := (hr6.2.2 j (by omega)).2.1
        rw [e1, e2]
        omega
    · rw [hlo m' hm' e] at hj
      have := g3 m' hm' j hj
      have h6 := hr6.1
      rw [rwq_of (σ := σ) (k := j) (hN _ (by omega) (by omega)), rwq_of (σ := σ) (k := j + 1) (hN _ (by omega) (by omega))]
      exact this
  · rw [sum4_eq (f := inN σ) (fun t' ht' => inN_of (hN _ (by omega) (by omega))), ← c1]
    exact cnt_congr 8 (fun k hk => by unfold leB; rw [hN _ (by omega) (by omega)])
  · have b := sum4_one (f := loN σ) (g := loN τ) hm (by omega) hlo
    rw [e4, cnt_t (show isW τ 0 A = true by unfold isW; rw [w4]; decide), b, c2]
    exact congrArg (· + 1) (cnt_congr _ (fun q' hq' => by unfold isW; rw [hN _ (by omega) (by omega)]))
  · rw [hN 8 (by omega) (by omega), e4, cnt_f (show isW τ 3 A = false by unfold isW; rw [w4]; decide), c3]
    exact congrArg nI (cnt_congr _ (fun q' hq' => by unfold isW; rw [hN _ (by omega) (by omega)]))
  · rw [hN 9 (by omega) (by omega), hN 8 (by omega) (by omega), e4, cnt_f (show onB τ A = false by unfold onB; rw [w4]; decide), c4]
    exact congrArg (fun z => σ 8 + nI z) (cnt_congr _ (fun q' hq' => by unfold onB; rw [hN _ (by omega) (by omega)]))
  · rw [hN 10 (by omega) (by omega), e4, c5]
    show _ = suI _ A + τ (161 + 11 * A + 9)
    rw [w9, i32_add0]
    exact suI_congr _ (fun q' hq' => (hN _ (by omega) (by omega)).symm)
/-- a question is taken away -/
theorem wd_J {m L q : Nat} (hS : InvS σ) (h : JJ σ) (hm : m < 4) (hL : loN σ m = L) (h1 : 1 ≤ L) (hq : rwq σ m (L - 1) = q) : JJ (wdS σ m L q) := by
  obtain ⟨hA4, hA⟩ := hS.A4
  obtain ⟨hr6, er, hrow⟩ := hS.rows hm
  rw [hL] at hr6 er hrow
  obtain ⟨p1, p2, p3, p4, p5, p6, p7⟩ := hrow (L - 1) (by omega)
  rw [hq] at p1 p2 p3 p4 p5 p7
  have hN : ∀ s, (s ≠ 21 + 11 * m + 0 ∧ s ≠ 161 + 11 * q + 4 ∧ s ≠ 21 + 11 * m + 10) → wdS σ m L q s = σ s := fun s h => wdS_n h
  have s0 : wdS σ m L q (21 + 11 * m + 0) = nI (L - 1) := by unfold wdS; rw [su_n (by omega), su_n (by omega), su_s]
  have w4 : wdS σ m L q (161 + 11 * q + 4) = 4 := wdS_4 hm
  generalize wdS σ m L q = τ at *
  obtain ⟨g1, g2, g3, c1, c2, c3, c4, c5⟩ := h
  have e4 : τ 4 = σ 4 := hN 4 (by omega)
  have hw : ∀ q', q' ≠ q → τ (161 + 11 * q' + 4) = σ (161 + 11 * q' + 4) := fun q' hq' => hN _ (by omega)
  have hlm : loN τ m = L - 1 := ix_eq s0 (by omega)
  have hlo : ∀ m', m' < 4 → m' ≠ m → loN σ m' = loN τ m' := fun m' a b => (loN_of (hN _ (by omega))).symm
  refine ⟨g1.fr (fun s hs => hN s (by unfold isV at hs; omega)), fun k' hk hne => ?_, fun m' hm' j hj => ?_, ?_, ?_, ?_, ?_, ?_⟩
  · have ek : τ (13 + k') = σ (13 + k') := hN _ (by omega)
    rw [ek] at hne ⊢
    obtain ⟨q', r1, r2, r3, r4⟩ := g2 k' hk hne
    have hqq : q' ≠ q := fun e => by
      unfold OnT at r4
      rw [e, p4] at r4
      rcases r4 with r4 | r4 <;> exact absurd r4 (by decide)
    refine ⟨q', by rw [e4]; exact r1, r2, by rw [hN _ (by omega)]; exact r3, ?_⟩
    unfold OnT at r4 ⊢
    rw [hw q' hqq]
    exact r4
  · have h6 := (hS.rows hm').1
    have hle : loN τ m' ≤ loN σ m' := by
      by_cases e : m' = m
      · subst e; omega
      · rw [← hlo m' hm' e]; exact Nat.le_refl _
    have := g3 m' hm' j (by omega)
    rw [rwq_of (σ := σ) (k := j) (hN _ (by omega)), rwq_of (σ := σ) (k := j + 1) (hN _ (by omega))]
    exact this
  · rw [sum4_eq (f := inN σ) (fun t' ht' => inN_of (hN _ (by omega))), ← c1]
    exact cnt_congr 8 (fun k hk => by unfold leB; rw [hN _ (by omega)])
  · have a := cnt_one (p := isW τ 0) (q := isW σ 0) (i := q) (by unfold isW; rw [w4]; decide) (by unfold isW; rw [p4]; decide) (ix (σ 4)) (fun q' _ hq' => by unfold isW; rw [hw q' hq'])
    rw [if_pos p2] at a
    have b := sum4_one (f := loN τ) (g := loN σ) hm (by omega) hlo
    rw [e4]
    omega
  · rw [hN 8 (by omega), e4, c3]
    refine congrArg nI (cnt_congr _ (fun q' _ => ?_))
    unfold isW
    by_cases e : q' = q
    · subst e; rw [w4, p4]; decide
    · rw [hw q' e]
  · rw [hN 9 (by omega), hN 8 (by omega), e4, c4]
    refine congrArg (fun z => σ 8 + nI z) (cnt_congr _ (fun q' _ => ?_))
    unfold onB
    by_cases e : q' = q
    · subst e; rw [w4, p4]; decide
    · rw [hw q' e]
  · rw [hN 10 (by omega), e4, c5]
    exact suI_congr _ (fun q' _ => (hN _ (by omega)).symm)
end PTJ
