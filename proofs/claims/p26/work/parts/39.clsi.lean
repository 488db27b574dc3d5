section CI
variable {σ ρ : Sr}
theorem AgE.appLB {A e t q : Nat} (h : AgE ρ σ A e) (ht : t < 4) (hn : inN σ t < 4) (he : e < 65) : AgE (appL ρ t q) (appL σ t q) A e := by
  have hin : inN ρ t = inN σ t := by unfold inN; rw [h _ (by omega) (by omega) (by omega) (by omega)]
  unfold appL
  rw [hin]
  refine AgE.both (h.both rfl) ?_
  rw [su_n (by omega), su_n (by omega), h _ (by omega) (by omega) (by omega) (by omega)]
theorem goneS_eq {m g : Nat} (hf : freeO σ = some g) : goneS σ m = sndQ (remR (sndHead σ m) m) m (rwq σ m 0) (tgt0 σ m) g := by
  unfold goneS
  rw [freeO_head, hf]
  rfl
theorem sndQ_n {τ : Sr} {m q t g s : Nat} (hi : inN (sndQ0 τ m q t g) t < 4) (h1 : s < 65 + 24 * t + 19 ∨ 65 + 24 * t + 24 ≤ s) (h2 : s ≠ 9 ∧ s ≠ 21 + 11 * m + 8 ∧ s ≠ 13 + g ∧ s ≠ 161 + 11 * q + 5 ∧ s ≠ 161 + 11 * q + 4 ∧ s ≠ 161 + 11 * q + 10) : sndQ τ m q t g s = τ s := by
  unfold sndQ
  rw [su_n h2.1, appL_n hi h1, sndQ0_n h2.2]
theorem gone_rel {m g : Nat} (hR : RelB ρ σ) (hm : m < 4) (h1 : 1 ≤ loN σ m) (hf : freeO σ = some g) (hfu : ¬ full σ (tgt0 σ m)) : RelB (clsG2 (clsG (remR (su ρ 7 (nI (t4 m 1))) m) m (rwq σ m 0) (tgt0 σ m) g) (tgt0 σ m) (rwq σ m 0)) (goneS σ m) := by
  obtain ⟨hS, hM, ⟨g1, g2⟩, hL, hC⟩ := hR
  obtain ⟨hA4, hA⟩ := hS.A4
  obtain ⟨hn, en, hl⟩ := hS.rows hm
  obtain ⟨p1, p2, p3, p4, p5, p6, p7⟩ := hl 0 (by omega)
  obtain ⟨ht, et⟩ := tgt0_ok hS hm h1
  have hin := full_not hS ht hfu
  obtain ⟨f1, f2⟩ := freeO_lt hf
  obtain ⟨hT, -, hT8⟩ := hS.T1
  have hS' := goneS_inv hS hm h1 (by rw [hf]; rfl) hfu
  rw [goneS_eq hf] at hS' ⊢
  obtain ⟨T, A, z1, z2, z3, z4, z5, z6, z7, z8, -⟩ := hS
  have hTT : Tg_ σ = T := ix_eq z1 (by omega)
  have hlh : loN (sndHead σ m) m = loN σ m := by unfold loN; rw [sndHead_n (by omega)]
  have hlr : loN (su ρ 7 (nI (t4 m 1))) m = loN σ m := by unfold loN; rw [su_n (by omega), g1 _ (by omega) (by omega) (by omega)]
  have hr : ∀ s, s ≠ 5 ∧ s ≠ 7 → (s < 21 + 11 * m ∨ 21 + 11 * m + 7 ≤ s) → remR (sndHead σ m) m s = σ s := fun s a b => by rw [remR_n (by omega) b, sndHead_n a]
  have hr' : ∀ s, s ≠ 7 → (s < 21 + 11 * m ∨ 21 + 11 * m + 7 ≤ s) → remR (su ρ 7 (nI (t4 m 1))) m s = ρ s := fun s a b => by rw [remR_n (by omega) b, su_n a]
  have a0 : AgE (remR (su ρ 7 (nI (t4 m 1))) m) (remR (sndHead σ m) m) (ix (σ 4)) 5 := by
    refine AgE.remRB ?_ (by omega) (by omega) hm (by omega)
    unfold sndHead
    exact ((g1.e 5).both rfl).sr (by omega)
  have hq : rwq σ m 0 < ix (σ 4) := p2
  have hq2 : rwq σ m 0 < 200 := p1
  have hz0 : σ (161 + 11 * rwq σ m 0 + 4) = 0 := p4
  have hz1 : σ (161 + 11 * rwq σ m 0 + 0) = nI m := p5
  have hd : remR (su ρ 7 (nI (t4 m 1))) m 0 + remR (su ρ 7 (nI (t4 m 1))) m (65 + 24 * tgt0 σ m + 17) + (remR (su ρ 7 (nI (t4 m 1))) m (161 + 11 * rwq σ m 0 + 2) - remR (su ρ 7 (nI (t4 m 1))) m (161 + 11 * rwq σ m 0 + 2) / 4 * 4) = sndQa (remR (sndHead σ m) m) m (rwq σ m 0) g 0 + sndQa (remR (sndHead σ m) m) m (rwq σ m 0) g (65 + 24 * tgt0 σ m + 17) + (sndQa (remR (sndHead σ m) m) m (rwq σ m 0) g (161 + 11 * rwq σ m 0 + 2) - sndQa (remR (sndHead σ m) m) m (rwq σ m 0) g (161 + 11 * rwq σ m 0 + 2) / 4 * 4) := by
    have hs : ∀ s, s = 0 ∨ s = 65 + 24 * tgt0 σ m + 17 ∨ s = 161 + 11 * rwq σ m 0 + 2 → sndQa (remR (sndHead σ m) m) m (rwq σ m 0) g s = remR (su ρ 7 (nI (t4 m 1))) m s := fun s hs => by
      unfold sndQa
      rw [su_n (by omega), su_n (by omega), su_n (by omega), su_n (by omega)]
      exact (a0 s (by omega) (by omega) (by omega) (by omega)).symm
    rw [hs _ (Or.inl rfl), hs _ (Or.inr (Or.inl rfl)), hs _ (Or.inr (Or.inr rfl))]
  generalize rwq σ m 0 = q at *
  generalize tgt0 σ m = t at *
  have hi0 : inN (sndQ0 (remR (sndHead σ m) m) m q t g) t = inN σ t := by unfold inN; rw [sndQ0_n (by omega), hr _ (by omega) (by omega)]
  have hi1 : inN (clsG (remR (su ρ 7 (nI (t4 m 1))) m) m q t g) t = inN σ t := by
    unfold inN clsG
    rw [su_n (by omega), su_n (by omega), su_n (by omega), su_n (by omega), su_n (by omega), su_n (by omega), hr' _ (by omega) (by omega), g1 _ (by omega) (by omega) (by omega)]
  have hn' : ∀ s, s ≠ 5 ∧ s ≠ 7 → (s < 21 + 11 * m ∨ 21 + 11 * m + 7 ≤ s) → (s < 65 + 24 * t + 19 ∨ 65 + 24 * t + 24 ≤ s) → (s ≠ 9 ∧ s ≠ 21 + 11 * m + 8 ∧ s ≠ 13 + g ∧ s ≠ 161 + 11 * q + 5 ∧ s ≠ 161 + 11 * q + 4 ∧ s ≠ 161 + 11 * q + 10) → sndQ (remR (sndHead σ m) m) m q t g s = σ s := fun s a b c d => by rw [sndQ_n (by omega) c d, hr s a b]
  have hcn : ∀ s, s ≠ 5 ∧ s ≠ 9 → (s < 65 + 24 * t + 19 ∨ 65 + 24 * t + 24 ≤ s) → clsG2 (clsG (remR (su ρ 7 (nI (t4 m 1))) m) m q t g) t q s = clsG (remR (su ρ 7 (nI (t4 m 1))) m) m q t g s := fun s a b => by
    unfold clsG2
    rw [su_n a.1, su_n a.2, appL_n (by omega) b]
  have a1 : AgE (clsG (remR (su ρ 7 (nI (t4 m 1))) m) m q t g) (sndQ0 (remR (sndHead σ m) m) m q t g) (ix (σ 4)) 5 := by
    unfold clsG sndQ0
    rw [hd]
    refine AgE.both ?_ rfl
    unfold sndQa
    exact ((((a0.both rfl).sl (by omega)).both rfl).both rfl).both rfl
  have hA' : sndQ (remR (sndHead σ m) m) m q t g 4 = σ 4 := hn' _ (by omega) (by omega) (by omega) (by omega)
  have hw : sndQ (remR (sndHead σ m) m) m q t g (161 + 11 * q + 4) = 1 := by
    unfold sndQ
    rw [su_n (by omega), appL_n (by omega) (by omega)]
    unfold sndQ0 sndQa
    rw [su_n (by omega), su_s]
  have hgl : sndQ (remR (sndHead σ m) m) m q t g (13 + g) = nI q := by
    unfold sndQ
    rw [su_n (by omega), appL_n (by omega) (by omega)]
    unfold sndQ0 sndQa
    rw [su_n (by omega), su_n (by omega), su_n (by omega), su_s]
  refine ⟨hS', by rw [hn' _ (by omega) (by omega) (by omega) (by omega)]; exact hM, ⟨?_, ?_⟩, ?_, ?_⟩
  · rw [hA']
    refine AgE.a (e := 5) ?_ ?_
    · unfold clsG2 sndQ
      refine AgE.sl ?_ (by omega)
      have a2 := a1.appLB (q := q) ht (by omega) (by omega)
      refine AgE.both a2 ?_
      rw [appL_n (by omega) (by omega), a1 9 (by omega) (by omega) (by omega) (by omega)]
    · have : sndQ (remR (sndHead σ m) m) m q t g 5 = 0 := by
        rw [sndQ_n (by omega) (by omega) (by omega), remR_n (by omega) (by omega)]
        unfold sndHead
        rw [su_s]
      rw [this]
      unfold clsG2
      rw [su_s]
  · rw [hA']
    intro q' hq' ho
    by_cases e : q' = q
    · subst e
      rw [hcn _ (by omega) (by omega)]
      unfold sndQ
      rw [su_n (by omega), appL_n (by omega) (by omega)]
      unfold clsG sndQ0
      rw [su_s, su_s, hd]
    · rw [hn' _ (by omega) (by omega) (by omega) (by omega), hcn _ (by omega) (by omega)]
      unfold clsG
      rw [su_n (by omega), su_n (by omega), su_n (by omega), su_n (by omega), su_n (by omega), su_n (by omega), hr' _ (by omega) (by omega)]
      refine g2 q' hq' ?_
      unfold OnT at ho ⊢
      rw [hn' _ (by omega) (by omega) (by omega) (by omega)] at ho
      exact ho
  · have : sndQ (remR (sndHead σ m) m) m q t g 5 = 0 := by
      rw [sndQ_n (by omega) (by omega) (by omega), remR_n (by omega) (by omega)]
      unfold sndHead
      rw [su_s]
    rw [this]
    unfold clsG2
    rw [su_s]
    decide
  · intro m' hm'
    obtain ⟨c1, c2, c3⟩ := hC m' hm'
    have hTg : Tg_ (sndQ (remR (sndHead σ m) m) m q t g) = Tg_ σ := by unfold Tg_; rw [hn' 1 (by omega) (by omega) (by omega) (by omega)]
    have h0q : ∀ q', sndQ (remR (sndHead σ m) m) m q t g (161 + 11 * q' + 0) = σ (161 + 11 * q' + 0) := fun q' => hn' _ (by omega) (by omega) (by omega) (by omega)
    have hold : ∀ j, j < Tg_ σ → j ≠ g → heldBy σ m' j = heldBy (sndQ (remR (sndHead σ m) m) m q t g) m' j := fun j hj hjk => by
      unfold heldBy
      rw [hn' (13 + j) (by omega) (by omega) (by omega) (by omega), h0q]
    have hk1 : heldBy σ m' g = false := by unfold heldBy; rw [f2]; rfl
    have hb3 : ∀ q', ansB3 (sndQ (remR (sndHead σ m) m) m q t g) m' q' = ansB3 σ m' q' := fun q' => by
      refine ansB3_fr (h0q q') ?_
      by_cases e : q' = q
      · subst e
        rw [hw, hz0]
        decide
      · rw [hn' _ (by omega) (by omega) (by omega) (by omega)]
    have hans : ansN (sndQ (remR (sndHead σ m) m) m q t g) m' = ansN σ m' := by
      unfold ansN
      rw [hA', cnt_congr _ (fun q' _ => hb3 q')]
    have hlon : lonL (sndQ (remR (sndHead σ m) m) m q t g) m' (ix (σ 4)) = lonL σ m' (ix (σ 4)) := lonL_congr _ (fun q' _ => ⟨hb3 q', fun _ => hn' _ (by omega) (by omega) (by omega) (by omega)⟩)
    have hx : ∀ s, 2361 ≤ s → s ≠ 2361 + m → clsG2 (clsG (remR (su ρ 7 (nI (t4 m 1))) m) m q t g) t q s = ρ s := fun s a b => by
      rw [hcn _ (by omega) (by omega)]
      unfold clsG
      rw [su_n (by omega), su_n (by omega), su_n (by omega), su_n (by omega), su_n (by omega), su_n (by omega), hr' _ (by omega) (by omega)]
    rw [hans, hA', hlon, hx (2365 + m') (by omega) (by omega), hx (2369 + m') (by omega) (by omega)]
    refine ⟨?_, c2, c3⟩
    by_cases e : m' = m
    · subst e
      have hk2 : heldBy (sndQ (remR (sndHead σ m') m') m' q t g) m' g = true := by
        unfold heldBy
        rw [hgl, ix_nI (by omega), h0q, hz1]
        simp [nI_ne5 (k := q) (by omega)]
      have hh := cnt_one hk1 hk2 (Tg_ σ) hold
      rw [if_pos (by omega)] at hh
      rw [hcn _ (by omega) (by omega)]
      unfold holdsN clsG
      rw [hTg, hh, su_n (by omega), su_n (by omega), su_n (by omega), su_n (by omega), su_s, hr' _ (by omega) (by omega), c1, nr_1]
      rfl
    · have hk2 : heldBy (sndQ (remR (sndHead σ m) m) m q t g) m' g = false := by
        unfold heldBy
        rw [hgl, ix_nI (by omega), h0q, hz1]
        have : nI m ≠ nI m' := fun z => e (nI_inj (by omega) (by omega) z).symm
        simp [this]
      rw [hx _ (by omega) (by omega), c1]
      unfold holdsN
      rw [hTg, cnt_congr _ (fun j hj => ?_)]
      by_cases ej : j = g
      · subst ej; rw [hk1, hk2]
      · exact hold j hj ej
theorem i32_lt4 (x : Int32) : (x < 4) = (x ≤ 3) := by
  apply propext
  rw [Int32.lt_iff_toInt_lt, Int32.le_iff_toInt_le]
  have h4 : (4 : Int32).toInt = 4 := by decide
  have h3 : (3 : Int32).toInt = 3 := by decide
  omega
theorem back_rel {m : Nat} (hR : RelB ρ σ) (hm : m < 4) (h1 : 1 ≤ loN σ m) : RelB (clsR (su ρ 7 (nI (t4 m 1))) m (rwq σ m 0)) (backS σ m) := by
  obtain ⟨hS, hM, ⟨g1, g2⟩, hL, hC⟩ := hR
  obtain ⟨hA4, hA⟩ := hS.A4
  obtain ⟨hn, en, hl⟩ := hS.rows hm
  obtain ⟨p1, p2, p3, p4, p5, p6, p7⟩ := hl 0 (by omega)
  have hS' := backS_inv hS hm
  have hn' : ∀ s, (s ≠ 5 ∧ s ≠ 7 ∧ s ≠ 10 ∧ s ≠ 21 + 11 * m + 8 ∧ s ≠ 21 + 11 * m + 9 ∧ s ≠ 161 + 11 * rwq σ m 0 + 9) → backS σ m s = σ s := fun s h => by
    unfold backS refS refS2 refS1 sndHead
    rw [su_n (by omega), su_n (by omega), su_n (by omega), su_n (by omega), su_n (by omega), su_n (by omega)]
  have hc' : ∀ s, (s ≠ 5 ∧ s ≠ 7 ∧ s ≠ 10 ∧ s ≠ 21 + 11 * m + 8 ∧ s ≠ 21 + 11 * m + 9 ∧ s ≠ 161 + 11 * rwq σ m 0 + 9) → clsR (su ρ 7 (nI (t4 m 1))) m (rwq σ m 0) s = ρ s := fun s h => by
    unfold clsR
    rw [su_n (by omega), su_n (by omega), su_n (by omega), su_n (by omega), su_n (by omega), su_n (by omega)]
  have hA' : backS σ m 4 = σ 4 := hn' _ (by omega)
  have b5 : backS σ m 5 = 0 := by
    unfold backS refS refS2 refS1 sndHead
    rw [su_n (by omega), su_n (by omega), su_n (by omega), su_n (by omega), su_s]
  have c5 : clsR (su ρ 7 (nI (t4 m 1))) m (rwq σ m 0) 5 = 2 := by unfold clsR; rw [su_s]
  refine ⟨hS', by rw [hn' _ (by omega)]; exact hM, ⟨?_, ?_⟩, by rw [b5, c5]; decide, hC.fr hS (fun k hk => hc' k (by omega)) (hn' _ (by omega)) (hn' _ (by omega)) (fun k hk => hn' _ (by omega)) (fun q hq => hn' _ (by omega)) (fun q hq => by rw [hn' _ (by omega)]) (fun q hq => hn' _ (by omega))⟩
  · rw [hA']
    intro s s1 s2 s3
    by_cases e7 : s = 7
    · subst e7
      unfold clsR backS refS refS2 refS1 sndHead
      rw [su_n (by omega), su_n (by omega), su_n (by omega), su_n (by omega), su_n (by omega), su_s, su_n (by omega), su_n (by omega), su_n (by omega), su_n (by omega), su_n (by omega), su_s]
    · by_cases e10 : s = 10
      · subst e10
        unfold clsR backS refS refS2 refS1 sndHead
        rw [su_n (by omega), su_s, su_n (by omega), su_n (by omega), su_s, su_n (by omega), su_n (by omega), su_n (by omega), su_n (by omega), g1 10 (by omega) (by omega) (by omega)]
      · by_cases e8 : s = 21 + 11 * m + 8
        · subst e8
          unfold clsR backS refS refS2 refS1 sndHead
          rw [su_n (by omega), su_n (by omega), su_n (by omega), su_s, su_n (by omega), su_n (by omega), su_n (by omega), su_n (by omega), su_s, su_n (by omega), su_n (by omega), g1 _ (by omega) (by omega) (by omega)]
        · by_cases e9 : s = 21 + 11 * m + 9
          · subst e9
            have r8 : refS2 (sndHead σ m) m (rwq σ m 0) (21 + 11 * m + 8) = σ (21 + 11 * m + 8) + 1 := by
              unfold refS2 refS1 sndHead
              rw [su_n (by omega), su_n (by omega), su_s, su_n (by omega), su_n (by omega)]
            have r0 : refS2 (sndHead σ m) m (rwq σ m 0) 0 = σ 0 := by
              unfold refS2 refS1 sndHead
              rw [su_n (by omega), su_n (by omega), su_n (by omega), su_n (by omega), su_n (by omega)]
            unfold clsR backS refS
            rw [su_n (by omega), su_n (by omega), su_s, su_s, r8, r0, su_n (by omega), su_n (by omega), g1 0 (by omega) (by omega) (by omega), g1 (21 + 11 * m + 8) (by omega) (by omega) (by omega)]
            by_cases c : σ (21 + 11 * m + 8) + 1 ≤ 3
            · rw [if_pos c, if_pos (by rw [i32_lt4]; exact c)]
            · rw [if_neg c, if_neg (by rw [i32_lt4]; exact c)]
          · by_cases eq : s = 161 + 11 * rwq σ m 0 + 9
            · subst eq
              unfold clsR backS refS refS2 refS1 sndHead
              rw [su_n (by omega), su_n (by omega), su_n (by omega), su_n (by omega), su_s, su_n (by omega), su_n (by omega), su_n (by omega), su_s, su_n (by omega), su_n (by omega), su_n (by omega), g1 _ (by omega) (by omega) (by omega)]
            · rw [hn' s (by omega), hc' s (by omega)]
              exact g1 s s1 s2 s3
  · rw [hA']
    refine g2.fr (fun q hq ho => ⟨?_, hc' _ (by omega), hn' _ (by omega)⟩)
    unfold OnT at ho ⊢
    rw [hn' _ (by omega)] at ho
    exact ho
end CI
