theorem ps_len' {len : Nat} {tx : Nat → Int32} : ∀ f p, (ps len tx f p).1.length ≤ f
  | 0, p => Nat.le_refl _
  | f + 1, p => by
    have ih := fun p' => ps_len' (len := len) (tx := tx) f p'
    unfold ps
    cases he : pq len tx p with
    | inl e => exact Nat.zero_le _
    | inr z =>
      obtain ⟨m, t, a, v, p'⟩ := z
      by_cases c : len ≤ p'
      · simp only [if_pos c]; simp
      · by_cases l : lit len tx 59 p' = true
        · simp only [if_neg c, if_pos l]
          have := ih (p' + 1)
          simp only [List.length_cons]
          omega
        · simp only [if_neg c, if_neg l]; simp
theorem ps_len (len : Nat) (tx : Nat → Int32) : (ps len tx 10 0).1.length ≤ 10 := ps_len' 10 0
section AK
variable {K : MK} {R : MR} {I J : MI} {t r len : Nat} {tx : Nat → Int32} {S : St}
theorem RT.oo (h : RT K R r I S) {I' : MI} (hf : ∀ c, c ≠ r → c ≠ r + 6 → c ≠ r + 7 → I' c = I c) (hr : ∀ k, k ≠ 8 → k ≠ 9 → I' r k = I r k) : RT K R r I' S := by
  obtain ⟨h1, h2, h3, h4, h5, ⟨h6, h7⟩, h8, h9, h10, h11⟩ := h
  exact ⟨h1, by rw [hf _ (by omega) (by omega) (by omega)]; exact h2, by rw [hr _ (by omega) (by omega)]; exact h3, h4, fun k hk hz => by rw [hf _ (by omega) (by omega) (by omega)]; exact h5 k hk hz, ⟨h6, by rw [hr _ (by omega) (by omega)]; exact h7⟩, fun j hj k hk => by rw [hf _ (by omega) (by omega) (by omega)]; exact h8 j hj k hk, h9, by rw [hr _ (by omega) (by omega)]; exact h10, fun i hi => by rw [hf _ (by omega) (by omega) (by omega)]; exact h11 i hi⟩
theorem r_ask {Q : Int32 → MI → Prop} {ρ : Sr} (hR : RT K R r I S) (hr : RelB ρ S.σ) (h0 : ∀ e I', (ps S.len S.tx 10 0).2 = some e → RT K R r I' S → FrR r I I' → Q (-100 - nI e) I') (h3 : ∀ I', (ps S.len S.tx 10 0).2 = none → ¬ roomP S.σ (ps S.len S.tx 10 0).1 → RT K R r I' S → FrR r I I' → Q (-3) I') (h1 : ∀ I', (ps S.len S.tx 10 0).2 = none → roomP S.σ (ps S.len S.tx 10 0).1 → RT K R r I' (S.rec'.wσ (pf S.σ (ps S.len S.tx 10 0).1)) → FrR r I I' → Q (nI (ps S.len S.tx 10 0).1.length) I') : w_X7_ask K R r I Q := by
  have hS := hr.1
  have hM := hR.1
  obtain ⟨hA4, hA⟩ := hS.A4
  have tail : ∀ I1, (∀ c, c ≠ r + 7 → I1 c = I c) → (∀ j, j < 4 → I1 (r + 7) j = nI (loN S.σ j)) → w_X7_go K R r 0 I1 (fun v13 I12 => (((I12 r 9) = 0 → ((((I12 (r + 1) 4) + v13) ≤ (200:Int32) → w_X7_ask_b69 K R r Q (0:Int32) I12) ∧ (¬ ((I12 (r + 1) 4) + v13) ≤ (200:Int32) → w_X7_ask_b69 K R r Q (1:Int32) I12))) ∧ (¬ (I12 r 9) = 0 → Q ((-100:Int32) - (I12 r 8)) I12))) := by
    intro I1 f1 c1
    have hR1 : RT K R r I1 S := hR.oo (fun c a1 a2 a3 => f1 c a3) (fun k _ _ => by rw [f1 r (by omega)])
    have hT1 : TXR I1 r S.len S.tx := ⟨hR1.2.2.2.2.2.2.2.1, hR1.2.2.2.2.2.2.2.2.1, hR1.2.2.2.2.2.2.2.2.2⟩
    have fr1 : FrR r I I1 := fun a ha => f1 a (by omega)
    refine r_go0 (base := loN S.σ) hM hT1 c1 (fun e n I' he fB => ?_) (fun I' e he fB hb => ?_)
    · have hR2 : RT K R r (mR I' r (nI e) 1) S := hR1.oo (fun c a1 a2 a3 => by rw [mR_o a1]; exact fB c a2 a3) (fun k k8 k9 => by rw [mR_k ⟨k8, k9⟩, fB r (by omega) (by omega)])
      rw [mR_9, mR_8]
      exact ⟨fun z => absurd z z10, fun _ => h0 e _ he hR2 (fr1.trans (fun a ha => by rw [mR_o (by omega)]; exact fB a (by omega) (by omega)))⟩
    · have hR2 : RT K R r (mR I' r (nI e) 0) S := hR1.oo (fun c a1 a2 a3 => by rw [mR_o a1]; exact fB c a2 a3) (fun k k8 k9 => by rw [mR_k ⟨k8, k9⟩, fB r (by omega) (by omega)])
      have fr2 : FrR r I (mR I' r (nI e) 0) := fr1.trans (fun a ha => by rw [mR_o (by omega)]; exact fB a (by omega) (by omega))
      have hb2 : ∀ m, m < 4 → mR I' r (nI e) 0 (r + 7) m = nI (loN S.σ m + cq (ps S.len S.tx 10 0).1 m) := fun m hm => by rw [mR_o (by omega)]; exact hb m hm
      have hcl : ∀ m, cq (ps S.len S.tx 10 0).1 m ≤ (ps S.len S.tx 10 0).1.length := fun m => cq_le _ m
      rw [mR_9, hR2.2.1, hA4]
      generalize mR I' r (nI e) 0 = Y at *
      have hlen : (ps S.len S.tx 10 0).1.length ≤ 10 := ps_len _ _
      have loop : ∀ z : Int32, (z = 0 ∨ z = 1) → (z = 0 ↔ ix (S.σ 4) + (ps S.len S.tx 10 0).1.length ≤ 200) → w_X7_ask_b69 K R r Q z Y := by
        intro z hz hz0
        unfold w_X7_ask_b69 w_X7_ask_b72
        intro X hX
        have key : ∀ d m, m + d = 4 → ∀ z : Int32, (z = 0 ∨ z = 1) → (z = 0 ↔ (ix (S.σ 4) + (ps S.len S.tx 10 0).1.length ≤ 200 ∧ ∀ j, j < m → loN S.σ j + cq (ps S.len S.tx 10 0).1 j ≤ 6)) → X z (nI m) Y := by
          intro d
          induction d with
          | zero =>
            intro m hm z hz hz0
            refine hX _ _ _ ?_
            have hm4 : m = 4 := by omega
            subst hm4
            unfold w_X7_ask_b72_body
            refine ⟨fun _ => ⟨fun c => ⟨hM, r_know hR2 (fun I2 hR3 f3 => ?_)⟩, fun c => h3 Y he (fun q => c (hz0.mpr q)) hR2 fr2⟩, fun q => absurd (show (4 : Int32) ≤ nI 4 by decide) q⟩
            have hro : roomP S.σ (ps S.len S.tx 10 0).1 := hz0.mp c
            have hT3 : TXR I2 r S.len S.tx := by
              have a1 := hR3.2.2.2.2.2.2.2
              rw [rec_len, rec_tx] at a1
              exact ⟨a1.1, a1.2.1, a1.2.2⟩
            have eσ : I2 (r + 1) = S.σ := by have := hR3.2.1; rw [rec_σ] at this; exact this
            refine r_go1 hM hT3 eσ hr he hro (fun I4 e4 f4 e5 => ?_)
            have hR5 : RT K R r (stS I2 r (pf S.σ (ps S.len S.tx 10 0).1)) (S.rec'.wσ (pf S.σ (ps S.len S.tx 10 0).1)) := hR3.w
            refine h1 _ he hro (hR5.oo (fun c a1 a2 a3 => ?_) (fun k k8 k9 => ?_)) (fr2.trans (f3.trans (fun a ha => by rw [mR_o (by omega)]; exact f4 a (by omega) (by omega))))
            · rw [mR_o a1]
              by_cases e : c = r + 1
              · subst e
                rw [e5]
                funext j
                exact stS_s.symm
              · rw [f4 c a2 e]
                funext j
                exact (stS_o e).symm
            · rw [mR_k ⟨k8, k9⟩, f4 r (by omega) (by omega), stS_o (by omega)]
          | succ d ih =>
            intro m hm z hz hz0
            refine hX _ _ _ ?_
            have hm4 : m < 4 := by omega
            have hl6 := (hS.rows hm4).1
            have hc1 := hcl m
            unfold w_X7_ask_b72_body w_X7_ask_b92 w_X7_ask_b97
            rw [ix_nI (by omega), hb2 m hm4, nr_1]
            refine ⟨fun q => absurd ((nI_leI (a := 4) (by omega) (by omega)).mp q) (by omega), fun _ => ⟨fun c => ih (m + 1) (by omega) 1 (Or.inr rfl) ⟨fun q => absurd q z10, fun q => ?_⟩, fun c => ⟨hM, vp_in_nI (by omega) (by decide), fun c2 => ih (m + 1) (by omega) 0 (Or.inl rfl) ⟨fun _ => ⟨(hz0.mp c).1, fun j hj => ?_⟩, fun _ => rfl⟩, fun c2 => ih (m + 1) (by omega) 1 (Or.inr rfl) ⟨fun q => absurd q z10, fun q => ?_⟩⟩⟩⟩
            · exact absurd (hz0.mpr ⟨q.1, fun j hj => q.2 j (by omega)⟩) c
            · by_cases e : j = m
              · subst e; exact (nI_leI (b := 6) (by omega) (by omega)).mp c2
              · exact (hz0.mp c).2 j (by omega)
            · exact absurd ((nI_leI (b := 6) (by omega) (by omega)).mpr (q.2 m (by omega))) c2
        exact key 4 0 rfl z hz ⟨fun q => ⟨hz0.mp q, fun j hj => by omega⟩, fun q => hz0.mpr q.1⟩
      rw [nI_add]
      refine ⟨fun _ => ⟨fun c => loop 0 (Or.inl rfl) ⟨fun _ => (nI_leI (b := 200) (by omega) (by omega)).mp c, fun _ => rfl⟩, fun c => loop 1 (Or.inr rfl) ⟨fun q => absurd q z10, fun q => absurd ((nI_leI (b := 200) (by omega) (by omega)).mpr q) c⟩⟩, fun z => absurd rfl z⟩
  unfold w_X7_ask w_X7_ask_b2
  intro X hX
  have key : ∀ d m, m + d = 4 → ∀ I1, (∀ c, c ≠ r + 7 → I1 c = I c) → (∀ j, j < m → I1 (r + 7) j = nI (loN S.σ j)) → X (nI m) I1 := by
    intro d
    induction d with
    | zero =>
      intro m hm I1 f1 c1
      refine hX _ _ ?_
      have hm4 : m = 4 := by omega
      subst hm4
      unfold w_X7_ask_b2_body
      exact ⟨fun _ => ⟨hM, tail I1 f1 c1⟩, fun q => absurd (show (4 : Int32) ≤ nI 4 by decide) q⟩
    | succ d ih =>
      intro m hm I1 f1 c1
      refine hX _ _ ?_
      have hm4 : m < 4 := by omega
      unfold w_X7_ask_b2_body
      refine ⟨fun q => absurd ((nI_leI (a := 4) (by omega) (by omega)).mp q) (by omega), fun _ => ⟨hM, ?_⟩⟩
      rw [ofM_l0, ix_nI (by omega), ix_nI (by omega), f1 (r + 1) (by omega), hR.2.1, (hS.rows hm4).2.1, nr_1]
      refine ⟨vp_in_nI (by omega) (by decide), vp_in_nI (by omega) (by decide), fun I21 e => ?_⟩
      subst e
      refine ih (m + 1) (by omega) _ (fun c hc => by rw [upI_f hc]; exact f1 c hc) (fun j hj => ?_)
      by_cases e : j = m
      · subst e; rw [upI_s]
      · rw [upI_k e]; exact c1 j (by omega)
  exact key 4 0 rfl I (fun _ _ => rfl) (fun j hj => by omega)
end AK
