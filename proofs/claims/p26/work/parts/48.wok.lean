section WK
variable {σ : Sr}
/-- what a trip makes of where a question is -/
theorem trip_w (hS : InvS σ) {q : Nat} (hq : q < ix (σ 4)) : tripS σ 4 = σ 4 ∧ ((tripS σ (161 + 11 * q + 4) = σ (161 + 11 * q + 4) ∧ ¬ (tripQ σ = nI q ∧ tripK σ = 1)) ∨ (tripS σ (161 + 11 * q + 4) = 3 ∧ tripQ σ = nI q ∧ tripK σ = 1) ∨ (tripS σ (161 + 11 * q + 4) = 1 ∧ σ (161 + 11 * q + 4) = 0 ∧ tripK σ ≠ 1)) := by
  obtain ⟨hA4, hA⟩ := hS.A4
  unfold tripS tripQ tripK
  by_cases hi : isAns σ = true
  · rw [if_pos hi, if_pos hi, if_pos hi]
    have hi2 := hi
    unfold isAns at hi2
    simp only [Bool.and_eq_true] at hi2
    obtain ⟨t, ht⟩ := Option.isSome_iff_exists.mp hi2.1
    obtain ⟨p, hp⟩ := tgtO_ans ht
    have ht4 := tgtO_lt ht
    have hpl := ansO_lt hp
    rw [ht]
    simp only [hp]
    obtain ⟨q1, q2, q3, -, k, k1, k2, k3⟩ := (hS.lists ht4).2.2 p hpl
    refine ⟨answersS_n hS ht4 hpl k2 k1 (by omega) (by omega) (by omega), ?_⟩
    by_cases e : q = lsq σ t p
    · subst e
      exact Or.inr (Or.inl ⟨(answersS_q hS ht4 hpl k2 k1).2.1, rfl, trivial⟩)
    · refine Or.inl ⟨answersS_n hS ht4 hpl k2 k1 (by omega) (by omega) (by omega), fun z => e ?_⟩
      exact (nI_inj (by omega) (by omega) z.1).symm
  · rw [if_neg hi, if_neg hi, if_neg hi]
    cases hm : mstO σ with
    | none => exact ⟨rfl, Or.inl ⟨rfl, fun z => absurd z.2 (show ¬ ((-5 : Int32) = 1) by decide)⟩⟩
    | some m =>
      have hm4 := mstO_lt hm
      obtain ⟨g1, g2⟩ := canB_ok (mstO_can hm)
      obtain ⟨hn, en, hl⟩ := hS.rows hm4
      obtain ⟨p1, p2, p3, p4, p5, p6, p7⟩ := hl 0 (by omega)
      by_cases hf : full σ (tgt0 σ m)
      · simp only [if_pos hf]
        have hb : ∀ s, (s ≠ 5 ∧ s ≠ 7 ∧ s ≠ 10 ∧ s ≠ 21 + 11 * m + 8 ∧ s ≠ 21 + 11 * m + 9 ∧ s ≠ 161 + 11 * rwq σ m 0 + 9) → backS σ m s = σ s := fun s h => by
          unfold backS refS refS2 refS1 sndHead
          rw [su_n (by omega), su_n (by omega), su_n (by omega), su_n (by omega), su_n (by omega), su_n (by omega)]
        exact ⟨hb _ (by omega), Or.inl ⟨hb _ (by omega), fun z => absurd z.2 (by decide)⟩⟩
      · simp only [if_neg hf]
        obtain ⟨ht, et⟩ := tgt0_ok hS hm4 g1
        have hin := full_not hS ht hf
        obtain ⟨g, hg⟩ := Option.isSome_iff_exists.mp g2
        obtain ⟨f1, f2⟩ := freeO_lt hg
        obtain ⟨hT, -, hT8⟩ := hS.T1
        have hlh : loN (sndHead σ m) m = loN σ m := by unfold loN; rw [sndHead_n (by omega)]
        rw [goneS_eq hg]
        have hr : ∀ s, s ≠ 5 ∧ s ≠ 7 → (s < 21 + 11 * m ∨ 21 + 11 * m + 7 ≤ s) → remR (sndHead σ m) m s = σ s := fun s a b => by rw [remR_n (by omega) b, sndHead_n a]
        have hi0 : inN (sndQ0 (remR (sndHead σ m) m) m (rwq σ m 0) (tgt0 σ m) g) (tgt0 σ m) = inN σ (tgt0 σ m) := by unfold inN; rw [sndQ0_n (by omega), hr _ (by omega) (by omega)]
        refine ⟨by rw [sndQ_n (by omega) (by omega) (by omega), hr _ (by omega) (by omega)], ?_⟩
        by_cases e : q = rwq σ m 0
        · subst e
          refine Or.inr (Or.inr ⟨?_, p4, by decide⟩)
          unfold sndQ
          rw [su_n (by omega), appL_n (by omega) (by omega)]
          unfold sndQ0 sndQa
          rw [su_n (by omega), su_s]
        · exact Or.inl ⟨by rw [sndQ_n (by omega) (by omega) (by omega), hr _ (by omega) (by omega)], fun z => absurd z.2 (by decide)⟩
theorem doAll_4 (hS : InvS σ) : doAllS σ 4 = σ 4 := (doAllL_inv hS 4 (by omega)).2 4 (by omega)
def Wst (σ τ : Sr) : Prop := ∀ q, τ (161 + 11 * q + 4) = σ (161 + 11 * q + 4) ∨ τ (161 + 11 * q + 4) = 2
theorem Wst.tr {a b c : Sr} (h : Wst a b) (g : Wst b c) : Wst a c := fun q => by
  rcases g q with e | e
  · rw [e]; exact h q
  · exact Or.inr e
theorem doOne_s {t k : Nat} (hS : InvS σ) (ht : t < 4) (hk : k < inN σ t) : Wst σ (doOne σ t k) := by
  obtain ⟨hn, en, hj⟩ := hS.lists ht
  obtain ⟨q1, q2, q3, ⟨a, ha, q4⟩, -⟩ := hj k hk
  intro q
  unfold doOne
  split
  · rw [ix_eq q4 (by omega)]
    by_cases hq : q = lsq σ t k
    · subst hq
      unfold doOn
      rw [su_s]
      exact Or.inr rfl
    · exact Or.inl (doOn_n (by omega) (by omega) (by omega))
  · exact Or.inl rfl
theorem doRow_s {t : Nat} (hS : InvS σ) (ht : t < 4) : ∀ k, k ≤ inN σ t → Wst σ (doRow σ t k)
  | 0, _ => fun _ => Or.inl rfl
  | k + 1, hk => by
    obtain ⟨h1, h2⟩ := doRow_inv hS ht k (by omega)
    have hin : inN (doRow σ t k) t = inN σ t := by unfold inN; rw [h2 _ (by omega)]
    exact (doRow_s hS ht k (by omega)).tr (doOne_s h1 ht (k := k) (by omega))
theorem doAllL_s (hS : InvS σ) : ∀ t, t ≤ 4 → Wst σ (doAllL σ t)
  | 0, _ => fun _ => Or.inl rfl
  | t + 1, ht => by
    obtain ⟨h1, h2⟩ := doAllL_inv hS t (by omega)
    exact (doAllL_s hS t (by omega)).tr (doRow_s h1 (t := t) (by omega) _ (Nat.le_refl _))
theorem tickS_w (s : Nat) (h0 : s ≠ 0) (h11 : s ≠ 11) (hw : ∀ j, j < 4 → s ≠ 21 + 11 * j + 10) : tickS σ s = tripS (doAllS σ) s := tickT_n h0 h11 hw
theorem tick_4 (hS : InvS σ) (hA : 1 ≤ ix (σ 4)) : tickS σ 4 = σ 4 := by
  have h1 : InvS (doAllS σ) := (doAllL_inv hS 4 (by omega)).1
  rw [tickS_w 4 (by omega) (by omega) (fun j hj => by omega), (trip_w h1 (q := 0) (by rw [doAll_4 hS]; omega)).1, doAll_4 hS]
theorem trip_4 (hS : InvS σ) : tripS σ 4 = σ 4 := by
  rcases Nat.eq_zero_or_pos (ix (σ 4)) with e | e
  · unfold tripS
    have hno : ∀ {q : Nat}, ¬ q < ix (σ 4) := fun {q} => by omega
    split
    · rename_i hi
      unfold isAns at hi
      simp only [Bool.and_eq_true] at hi
      obtain ⟨t, ht⟩ := Option.isSome_iff_exists.mp hi.1
      obtain ⟨p, hp⟩ := tgtO_ans ht
      exact absurd (hS.lists2 (tgtO_lt ht) (ansO_lt hp)).1 hno
    · cases hm : mstO σ with
      | none => rfl
      | some m =>
        obtain ⟨g1, g2⟩ := canB_ok (mstO_can hm)
        exact absurd ((hS.rows (mstO_lt hm)).2.2 0 (by omega)).2.1 hno
  · exact (trip_w hS (q := 0) e).1
theorem tick_4' (hS : InvS σ) : tickS σ 4 = σ 4 := by
  have h1 : InvS (doAllS σ) := (doAllL_inv hS 4 (by omega)).1
  rw [tickS_w 4 (by omega) (by omega) (fun j hj => by omega), trip_4 h1, doAll_4 hS]
theorem tick_wok (hS : InvS σ) (h : WOK σ) : WOK (tickS σ) := by
  have h1 : InvS (doAllS σ) := (doAllL_inv hS 4 (by omega)).1
  intro q hq
  rw [tick_4' hS] at hq
  rw [tickS_w _ (by omega) (by omega) (fun j hj => by omega)]
  have hs := doAllL_s hS 4 (by omega) q
  have h0 := h q hq
  rcases (trip_w h1 (q := q) (by rw [doAll_4 hS]; exact hq)).2 with ⟨e, -⟩ | ⟨e, -⟩ | ⟨e, -⟩
  · rw [e]
    rcases hs with z | z
    · rw [show doAllS σ (161 + 11 * q + 4) = σ (161 + 11 * q + 4) from z]; exact h0
    · exact Or.inr (Or.inr (Or.inl z))
  · exact Or.inr (Or.inr (Or.inr (Or.inl e)))
  · exact Or.inr (Or.inl e)
/-- a question that is not answered is answered by the tick that tells it -/
theorem tick_ans (hS : InvS σ) {q : Nat} (hq : q < ix (σ 4)) (h3 : σ (161 + 11 * q + 4) ≠ 3) : tickS σ (161 + 11 * q + 4) = 3 ↔ (tickQ σ = nI q ∧ tickK σ = 1) := by
  have h1 : InvS (doAllS σ) := (doAllL_inv hS 4 (by omega)).1
  rw [tickS_w _ (by omega) (by omega) (fun j hj => by omega)]
  have hd : doAllS σ (161 + 11 * q + 4) ≠ 3 := fun z => h3 ((doAllL_w hS 4 (by omega) q).mp z)
  show _ ↔ (tripQ (doAllS σ) = nI q ∧ tripK (doAllS σ) = 1)
  rcases (trip_w h1 (q := q) (by rw [doAll_4 hS]; exact hq)).2 with ⟨e, n⟩ | ⟨e, n⟩ | ⟨e, -, n⟩
  · rw [e]
    exact ⟨fun z => absurd z hd, fun z => absurd z n⟩
  · exact ⟨fun _ => n, fun _ => e⟩
  · rw [e]
    exact ⟨fun z => absurd z (by decide), fun z => absurd z.2 n⟩
end WK
