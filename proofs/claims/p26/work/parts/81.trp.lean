section TRP
variable {σ : Sr}
/-- an answer goes -/
theorem ans_P {t p : Nat} (hS : InvS σ) (h : JJ σ) (ht : t < 4) (hp : p < inN σ t) : JJ (answersS σ t p) ∧ answersS σ t p 0 = σ 0 ∧ answersS σ t p 11 = σ 11 ∧ answersS σ t p 8 = σ 8 + 1 ∧ answersS σ t p 9 = σ 9 ∧ answersS σ t p 10 = σ 10 ∧ answersS σ t p (161 + 11 * lsq σ t p + 4) = 3 ∧ answersS σ t p (161 + 11 * lsq σ t p + 9) = σ (161 + 11 * lsq σ t p + 9) := by
  obtain ⟨hA4, hA⟩ := hS.A4
  obtain ⟨hn, en, hl⟩ := hS.lists ht
  obtain ⟨q1, q2, q3, -, k, k1, k2, k3⟩ := hl p hp
  obtain ⟨l1, -, -⟩ := hS.lists2 ht hp
  have hin0 : inN (ansHead σ t p) t = inN σ t := inN_of (ansHead_n (by omega))
  have e5 : remL (ansHead σ t p) t p (161 + 11 * lsq σ t p + 5) = nI k := by
    rw [remL_n (by omega) (by omega) (by omega), ansHead_n (by omega)]
    exact k2
  have hN : ∀ s, (s ≠ 5 ∧ s ≠ 6 ∧ s ≠ 8 ∧ s ≠ 12) → (s < 65 + 24 * t + 19 ∨ 65 + 24 * t + 24 ≤ s) → (s ≠ 13 + k ∧ s ≠ 161 + 11 * lsq σ t p + 5 ∧ s ≠ 161 + 11 * lsq σ t p + 4 ∧ s ≠ 161 + 11 * lsq σ t p + 8) → answersS σ t p s = σ s := fun s a b c => answersS_n hS ht hp k2 k1 a b c
  obtain ⟨v1, v2, -⟩ := answersS_q hS ht hp k2 k1
  have v8 : answersS σ t p 8 = σ 8 + 1 := by
    unfold answersS
    rw [ansQ_n (by rw [ix_eq e5 (by omega)]; omega) (by omega) (by omega) (by omega), remL_n (by omega) (by omega) (by omega)]
    unfold ansHead
    rw [su_n (by omega), su_s, su_n (by omega), su_n (by omega)]
  have vin : answersS σ t p (65 + 24 * t + 19) = nI (inN σ t - 1) := by
    unfold answersS
    rw [ansQ_n (by rw [ix_eq e5 (by omega)]; omega) (by omega) (by omega) (by omega), (remL_at (ansHead_inv hS t p) ht (by omega)).1, hin0]
  have vin2 : inN (answersS σ t p) t = inN σ t - 1 := ix_eq vin (by omega)
  have hz : σ (161 + 11 * lsq σ t p + 4) ≠ 0 ∧ σ (161 + 11 * lsq σ t p + 4) ≠ 3 := by
    rcases q3 with e | e <;> rw [e] <;> decide
  have hon : onB σ (lsq σ t p) = true := by
    unfold onB
    rcases q3 with e | e <;> rw [e] <;> decide
  generalize answersS σ t p = τ at *
  generalize lsq σ t p = q at *
  obtain ⟨g1, g2, g3, c1, c2, c3, c4, c5⟩ := h
  have e4 : τ 4 = σ 4 := hN 4 (by omega) (by omega) (by omega)
  have hw : ∀ q', q' ≠ q → τ (161 + 11 * q' + 4) = σ (161 + 11 * q' + 4) := fun q' hq' => hN _ (by omega) (by omega) (by omega)
  have hlo : ∀ m, m < 4 → loN τ m = loN σ m := fun m hm => loN_of (hN _ (by omega) (by omega) (by omega))
  have hin : ∀ t', t' < 4 → t' ≠ t → inN σ t' = inN τ t' := fun t' h1 h2 => (inN_of (hN _ (by omega) (by omega) (by omega))).symm
  refine ⟨⟨g1.fr (fun s hs => hN s (by unfold isV at hs; omega) (by unfold isV at hs; omega) (by unfold isV at hs; omega)), fun k' hk hne => ?_, fun m hm j hj => ?_, ?_, ?_, ?_, ?_, ?_⟩, hN _ (by omega) (by omega) (by omega), hN _ (by omega) (by omega) (by omega), v8, hN _ (by omega) (by omega) (by omega), hN _ (by omega) (by omega) (by omega), v2, hN _ (by omega) (by omega) (by omega)⟩
  · have hkk : k' ≠ k := fun e => hne (by rw [e]; exact v1)
    have ek : τ (13 + k') = σ (13 + k') := hN _ (by omega) (by omega) (by omega)
    rw [ek] at hne ⊢
    obtain ⟨q', r1, r2, r3, r4⟩ := g2 k' hk hne
    have hqq : q' ≠ q := fun e => by
      rw [e, k2] at r3
      exact hkk (nI_inj (by omega) (by omega) r3).symm
    refine ⟨q', by rw [e4]; exact r1, r2, by rw [hN _ (by omega) (by omega) (by omega)]; exact r3, ?_⟩
    unfold OnT at r4 ⊢
    rw [hw q' hqq]
    exact r4
  · have hr6 := (hS.rows hm).1
    rw [hlo m hm] at hj
    have := g3 m hm j hj
    rw [rwq_of (σ := σ) (k := j) (hN _ (by omega) (by omega) (by omega)), rwq_of (σ := σ) (k := j + 1) (hN _ (by omega) (by omega) (by omega))]
    exact this
  · have a := cnt_one (p := leB τ) (q := leB σ) (i := k) (by unfold leB; rw [v1]; decide) (by unfold leB; rw [k3]; exact bne_iff_ne.mpr (nI_ne5 (by omega))) 8 (fun k' hk hk2 => by unfold leB; rw [hN _ (by omega) (by omega) (by omega)])
    rw [if_pos k1] at a
    have b := sum4_one (f := inN τ) (g := inN σ) ht (by omega) hin
    omega
  · rw [sum4_eq hlo, c2, e4]
    refine cnt_congr _ (fun q' hq' => ?_)
    unfold isW
    by_cases e : q' = q
    · subst e
      rw [v2, beq_eq_false_iff_ne.mpr hz.1]; decide
    · rw [hw q' e]
  · have a := cnt_one (p := isW σ 3) (q := isW τ 3) (i := q) (beq_eq_false_iff_ne.mpr hz.2) (by unfold isW; rw [v2]; decide) (ix (σ 4)) (fun q' _ hq' => by unfold isW; rw [hw q' hq'])
    rw [if_pos l1] at a
    rw [v8, e4, a, c3, nr_1]
  · have a := cnt_one (p := onB τ) (q := onB σ) (i := q) (by unfold onB; rw [v2]; decide) hon (ix (σ 4)) (fun q' _ hq' => by unfold onB; rw [hw q' hq'])
    rw [if_pos l1] at a
    rw [hN 9 (by omega) (by omega) (by omega), v8, e4, c4, a, Int32.add_assoc, nl_1, Nat.add_comm]
  · rw [hN 10 (by omega) (by omega) (by omega), e4, c5]
    exact suI_congr _ (fun q' _ => (hN _ (by omega) (by omega) (by omega)).symm)
/-- a question goes -/
theorem gone_P {m : Nat} (hS : InvS σ) (h : JJ σ) (hm : m < 4) (h1 : 1 ≤ loN σ m) (hf : (freeO σ).isSome = true) (hfu : ¬ full σ (tgt0 σ m)) : JJ (goneS σ m) ∧ goneS σ m 0 = σ 0 ∧ goneS σ m 11 = σ 11 ∧ goneS σ m 8 = σ 8 ∧ goneS σ m 9 = σ 9 + 1 ∧ goneS σ m 10 = σ 10 ∧ goneS σ m (161 + 11 * rwq σ m 0 + 4) = 1 ∧ goneS σ m (161 + 11 * rwq σ m 0 + 9) = σ (161 + 11 * rwq σ m 0 + 9) := by
  obtain ⟨hA4, hA⟩ := hS.A4
  obtain ⟨hn, en, hl⟩ := hS.rows hm
  obtain ⟨p1, p2, p3, p4, p5, p6, p7⟩ := hl 0 (by omega)
  obtain ⟨ht, et⟩ := tgt0_ok hS hm h1
  have hin := full_not hS ht hfu
  obtain ⟨g, hg⟩ := Option.isSome_iff_exists.mp hf
  obtain ⟨f1, f2⟩ := freeO_lt hg
  obtain ⟨hT, -, hT8⟩ := hS.T1
  have hh := sndHead_inv hS m
  have hlh : loN (sndHead σ m) m = loN σ m := loN_of (sndHead_n (by omega))
  obtain ⟨ra1, ra2⟩ := remR_at hh hm (by omega)
  rw [hlh] at ra1 ra2
  have enl := (hS.lists ht).2.1
  rw [goneS_eq hg]
  have hr : ∀ s, s ≠ 5 ∧ s ≠ 7 → (s < 21 + 11 * m ∨ 21 + 11 * m + 7 ≤ s) → remR (sndHead σ m) m s = σ s := fun s a b => by rw [remR_n (by omega) b, sndHead_n a]
  have ra3 : ∀ j, j < loN σ m - 1 → remR (sndHead σ m) m (21 + 11 * m + 1 + j) = σ (21 + 11 * m + 1 + (j + 1)) := fun j hj => by rw [ra2 j hj, sndHead_n (by omega)]
  have hi0 : inN (sndQ0 (remR (sndHead σ m) m) m (rwq σ m 0) (tgt0 σ m) g) (tgt0 σ m) = inN σ (tgt0 σ m) := by unfold inN; rw [sndQ0_n (by omega), hr _ (by omega) (by omega)]
  have hQ : ∀ s, (s < 65 + 24 * tgt0 σ m + 19 ∨ 65 + 24 * tgt0 σ m + 24 ≤ s) → (s ≠ 9 ∧ s ≠ 21 + 11 * m + 8 ∧ s ≠ 13 + g ∧ s ≠ 161 + 11 * rwq σ m 0 + 5 ∧ s ≠ 161 + 11 * rwq σ m 0 + 4 ∧ s ≠ 161 + 11 * rwq σ m 0 + 10) → sndQ (remR (sndHead σ m) m) m (rwq σ m 0) (tgt0 σ m) g s = remR (sndHead σ m) m s := fun s a b => sndQ_n (by omega) a b
  have hE : ∀ s, (s < 65 + 24 * tgt0 σ m + 19 ∨ 65 + 24 * tgt0 σ m + 24 ≤ s) → s ≠ 9 → sndQ (remR (sndHead σ m) m) m (rwq σ m 0) (tgt0 σ m) g s = sndQ0 (remR (sndHead σ m) m) m (rwq σ m 0) (tgt0 σ m) g s := fun s a b => by
    unfold sndQ
    rw [su_n b, appL_n (by omega) a]
  have v4 : sndQ (remR (sndHead σ m) m) m (rwq σ m 0) (tgt0 σ m) g (161 + 11 * rwq σ m 0 + 4) = 1 := by
    rw [hE _ (by omega) (by omega)]
    unfold sndQ0 sndQa
    rw [su_n (by omega), su_s]
  have v5 : sndQ (remR (sndHead σ m) m) m (rwq σ m 0) (tgt0 σ m) g (161 + 11 * rwq σ m 0 + 5) = nI g := by
    rw [hE _ (by omega) (by omega)]
    unfold sndQ0 sndQa
    rw [su_n (by omega), su_n (by omega), su_s]
  have vg : sndQ (remR (sndHead σ m) m) m (rwq σ m 0) (tgt0 σ m) g (13 + g) = nI (rwq σ m 0) := by
    rw [hE _ (by omega) (by omega)]
    unfold sndQ0 sndQa
    rw [su_n (by omega), su_n (by omega), su_n (by omega), su_s]
  have v9 : sndQ (remR (sndHead σ m) m) m (rwq σ m 0) (tgt0 σ m) g 9 = σ 9 + 1 := by
    unfold sndQ
    rw [su_s, appL_n (by omega) (by omega), sndQ0_n (by omega), hr _ (by omega) (by omega)]
  have vt : sndQ (remR (sndHead σ m) m) m (rwq σ m 0) (tgt0 σ m) g (65 + 24 * tgt0 σ m + 19) = nI (inN σ (tgt0 σ m) + 1) := by
    unfold sndQ appL
    rw [su_n (by omega), su_s, su_n (by omega), sndQ0_n (by omega), hr _ (by omega) (by omega), enl, nr_1]
  have vl : sndQ (remR (sndHead σ m) m) m (rwq σ m 0) (tgt0 σ m) g (21 + 11 * m + 0) = nI (loN σ m - 1) := by rw [hQ _ (by omega) (by omega)]; exact ra1
  have vr : ∀ j, j < loN σ m - 1 → sndQ (remR (sndHead σ m) m) m (rwq σ m 0) (tgt0 σ m) g (21 + 11 * m + 1 + j) = σ (21 + 11 * m + 1 + (j + 1)) := fun j hj => by rw [hQ _ (by omega) (by omega)]; exact ra3 j hj
  have hN : ∀ s, s ≠ 5 ∧ s ≠ 7 → (s < 21 + 11 * m ∨ 21 + 11 * m + 7 ≤ s) → (s < 65 + 24 * tgt0 σ m + 19 ∨ 65 + 24 * tgt0 σ m + 24 ≤ s) → (s ≠ 9 ∧ s ≠ 21 + 11 * m + 8 ∧ s ≠ 13 + g ∧ s ≠ 161 + 11 * rwq σ m 0 + 5 ∧ s ≠ 161 + 11 * rwq σ m 0 + 4 ∧ s ≠ 161 + 11 * rwq σ m 0 + 10) → sndQ (remR (sndHead σ m) m) m (rwq σ m 0) (tgt0 σ m) g s = σ s := fun s a b c d => by rw [hQ s c d, hr s a b]
  clear hE hQ ra1 ra2 ra3 hr hi0 hh hlh
  generalize sndQ (remR (sndHead σ m) m) m (rwq σ m 0) (tgt0 σ m) g = τ at *
  generalize rwq σ m 0 = q at *
  generalize tgt0 σ m = t at *
  obtain ⟨g1, g2, g3, c1, c2, c3, c4, c5⟩ := h
  have e4 : τ 4 = σ 4 := hN 4 (by omega) (by omega) (by omega) (by omega)
  have hw : ∀ q', q' ≠ q → τ (161 + 11 * q' + 4) = σ (161 + 11 * q' + 4) := fun q' hq' => hN _ (by omega) (by omega) (by omega) (by omega)
  have hlo : ∀ m', m' < 4 → m' ≠ m → loN σ m' = loN τ m' := fun m' a b => (loN_of (hN _ (by omega) (by omega) (by omega) (by omega))).symm
  have hlm : loN τ m = loN σ m - 1 := ix_eq vl (by omega)
  have hitt : inN τ t = inN σ t + 1 := ix_eq vt (by omega)
  have hin' : ∀ t', t' < 4 → t' ≠ t → inN τ t' = inN σ t' := fun t' a b => inN_of (hN _ (by omega) (by omega) (by omega) (by omega))
  refine ⟨⟨g1.fr (fun s hs => hN s (by unfold isV at hs; omega) (by unfold isV at hs; omega) (by unfold isV at hs; omega) (by unfold isV at hs; omega)), fun k' hk hne => ?_, fun m' hm' j hj => ?_, ?_, ?_, ?_, ?_, ?_⟩, hN _ (by omega) (by omega) (by omega) (by omega), hN _ (by omega) (by omega) (by omega) (by omega), hN _ (by omega) (by omega) (by omega) (by omega), v9, hN _ (by omega) (by omega) (by omega) (by omega), v4, hN _ (by omega) (by omega) (by omega) (by omega)⟩
  · by_cases e : k' = g
    · subst e
      exact ⟨q, by rw [e4]; exact p2, vg, v5, Or.inl v4⟩
    · have ek : τ (13 + k') = σ (13 + k') := hN _ (by omega) (by omega) (by omega) (by omega)
      rw [ek] at hne ⊢
      obtain ⟨q', r1, r2, r3, r4⟩ := g2 k' hk hne
      have hqq : q' ≠ q := fun e => by
        unfold OnT at r4
        rw [e, p4] at r4
        rcases r4 with r4 | r4 <;> exact absurd r4 (by decide)
      refine ⟨q', by rw [e4]; exact r1, r2, by rw [hN _ (by omega) (by omega) (by omega) (by omega)]; exact r3, ?_⟩
      unfold OnT at r4 ⊢
      rw [hw q' hqq]
      exact r4
  · have hr6 := (hS.rows hm').1
    by_cases e : m' = m
    · subst e
      rw [hlm] at hj
      have := g3 m' hm' (j + 1) (by omega)
      rw [rwq_of (σ := σ) (k := j + 1) (vr j (by omega)), rwq_of (σ := σ) (k := j + 1 + 1) (vr (j + 1) (by omega))]
      exact this
    · rw [← hlo m' hm' e] at hj
      have := g3 m' hm' j hj
      rw [rwq_of (σ := σ) (k := j) (hN _ (by omega) (by omega) (by omega) (by omega)), rwq_of (σ := σ) (k := j + 1) (hN _ (by omega) (by omega) (by omega) (by omega))]
      exact this
  · have a := cnt_one (p := leB σ) (q := leB τ) (i := g) (by unfold leB; rw [f2]; decide) (by unfold leB; rw [vg]; exact bne_iff_ne.mpr (nI_ne5 (by omega))) 8 (fun k' hk hk2 => by unfold leB; rw [hN _ (by omega) (by omega) (by omega) (by omega)])
    rw [if_pos (by omega)] at a
    have b := sum4_one (f := inN σ) (g := inN τ) ht hitt hin'
    omega
  · have a := cnt_one (p := isW τ 0) (q := isW σ 0) (i := q) (by unfold isW; rw [v4]; decide) (by unfold isW; rw [p4]; decide) (ix (σ 4)) (fun q' _ hq' => by unfold isW; rw [hw q' hq'])
    rw [if_pos p2] at a
    have b := sum4_one (f := loN τ) (g := loN σ) hm (by omega) hlo
    rw [e4]
    omega
  · rw [hN 8 (by omega) (by omega) (by omega) (by omega), e4, c3]
    refine congrArg nI (cnt_congr _ (fun q' _ => ?_))
    unfold isW
    by_cases e : q' = q
    · subst e; rw [v4, p4]; decide
    · rw [hw q' e]
  · have a := cnt_one (p := onB σ) (q := onB τ) (i := q) (by unfold onB; rw [p4]; decide) (by unfold onB; rw [v4]; decide) (ix (σ 4)) (fun q' _ hq' => by unfold onB; rw [hw q' hq'])
    rw [if_pos p2] at a
    rw [v9, hN 8 (by omega) (by omega) (by omega) (by omega), e4, c4, a, Int32.add_assoc, nr_1]
  · rw [hN 10 (by omega) (by omega) (by omega) (by omega), e4, c5]
    exact suI_congr _ (fun q' _ => (hN _ (by omega) (by omega) (by omega) (by omega)).symm)
/-- a question is refused -/
theorem back_P {m : Nat} (hS : InvS σ) (h : JJ σ) (hm : m < 4) (h1 : 1 ≤ loN σ m) : JJ (backS σ m) ∧ backS σ m 0 = σ 0 ∧ backS σ m 11 = σ 11 ∧ backS σ m 8 = σ 8 ∧ backS σ m 9 = σ 9 ∧ backS σ m 10 = σ 10 + 1 ∧ backS σ m (161 + 11 * rwq σ m 0 + 4) = 0 ∧ backS σ m (161 + 11 * rwq σ m 0 + 9) = σ (161 + 11 * rwq σ m 0 + 9) + 1 := by
  obtain ⟨hA4, hA⟩ := hS.A4
  obtain ⟨hn, en, hl⟩ := hS.rows hm
  obtain ⟨p1, p2, p3, p4, p5, p6, p7⟩ := hl 0 (by omega)
  have hN : ∀ s, (s ≠ 5 ∧ s ≠ 7 ∧ s ≠ 10 ∧ s ≠ 21 + 11 * m + 8 ∧ s ≠ 21 + 11 * m + 9 ∧ s ≠ 161 + 11 * rwq σ m 0 + 9) → backS σ m s = σ s := fun s h => by
    unfold backS refS refS2 refS1 sndHead
    rw [su_n (by omega), su_n (by omega), su_n (by omega), su_n (by omega), su_n (by omega), su_n (by omega)]
  have v10 : backS σ m 10 = σ 10 + 1 := by
    unfold backS refS refS2 refS1 sndHead
    rw [su_n (by omega), su_s, su_n (by omega), su_n (by omega), su_n (by omega), su_n (by omega)]
  have v9 : backS σ m (161 + 11 * rwq σ m 0 + 9) = σ (161 + 11 * rwq σ m 0 + 9) + 1 := by
    unfold backS refS refS2 refS1 sndHead
    rw [su_n (by omega), su_n (by omega), su_s, su_n (by omega), su_n (by omega), su_n (by omega)]
  generalize backS σ m = τ at *
  generalize rwq σ m 0 = q at *
  obtain ⟨g1, g2, g3, c1, c2, c3, c4, c5⟩ := h
  have e4 : τ 4 = σ 4 := hN 4 (by omega)
  have hw : ∀ q', τ (161 + 11 * q' + 4) = σ (161 + 11 * q' + 4) := fun q' => hN _ (by omega)
  refine ⟨⟨g1.fr (fun s hs => hN s (by unfold isV at hs; omega)), fun k' hk hne => ?_, fun m' hm' j hj => ?_, ?_, ?_, ?_, ?_, ?_⟩, hN _ (by omega), hN _ (by omega), hN _ (by omega), hN _ (by omega), v10, by rw [hw]; exact p4, v9⟩
  · have ek : τ (13 + k') = σ (13 + k') := hN _ (by omega)
    rw [ek] at hne ⊢
    obtain ⟨q', r1, r2, r3, r4⟩ := g2 k' hk hne
    refine ⟨q', by rw [e4]; exact r1, r2, by rw [hN _ (by omega)]; exact r3, ?_⟩
    unfold OnT at r4 ⊢
    rw [hw q']
    exact r4
  · have hr6 := (hS.rows hm').1
    have hlo : loN τ m' = loN σ m' := loN_of (hN _ (by omega))
    rw [hlo] at hj
    have := g3 m' hm' j hj
    rw [rwq_of (σ := σ) (k := j) (hN _ (by omega)), rwq_of (σ := σ) (k := j + 1) (hN _ (by omega))]
    exact this
  · rw [sum4_eq (f := inN σ) (fun t' ht' => inN_of (hN _ (by omega))), ← c1]
    exact cnt_congr 8 (fun k hk => by unfold leB; rw [hN _ (by omega)])
  · rw [sum4_eq (f := loN σ) (fun t' ht' => loN_of (hN _ (by omega))), e4, c2]
    exact cnt_congr _ (fun q' _ => by unfold isW; rw [hw q'])
  · rw [hN 8 (by omega), e4, c3]
    exact congrArg nI (cnt_congr _ (fun q' _ => by unfold isW; rw [hw q']))
  · rw [hN 9 (by omega), hN 8 (by omega), e4, c4]
    exact congrArg (fun z => σ 8 + nI z) (cnt_congr _ (fun q' _ => by unfold onB; rw [hw q']))
  · have a := suI_one (f := fun q => σ (161 + 11 * q + 9)) (g := fun q => τ (161 + 11 * q + 9)) (i := q) v9 (ix (σ 4)) (fun q' _ hq' => (hN _ (by omega)).symm)
    rw [if_pos p2] at a
    rw [v10, e4, a, c5]
end TRP
