section TCK
variable {σ : Sr}
theorem doOne_J {t k : Nat} (hS : InvS σ) (h : JJ σ) (ht : t < 4) (hk : k < inN σ t) : JJ (doOne σ t k) := by
  obtain ⟨hn, en, hj⟩ := hS.lists ht
  obtain ⟨q1, q2, q3, q4, -⟩ := hj k hk
  refine h.fr hS (fun s hs => doOne_n q4 (by unfold isJ at hs; omega) ht) (fun s hs => ?_) (fun q => ?_)
  · obtain ⟨a, ha, e⟩ := q4
    unfold doOne
    split
    · rw [ix_eq e (by omega)]
      by_cases c : s = 65 + 24 * t + a
      · subst c
        unfold doOn doB doA
        rw [su_n (by omega), su_s]
        split
        · rw [su_n (by omega)]; exact h.1 _ hs
        · rw [su_n (by omega)]; exact h.1 _ (by unfold isV; omega)
      · rw [doOn_n (by unfold isV at hs; omega) c (by unfold isV at hs; omega)]
        exact h.1 s hs
    · exact h.1 s hs
  · unfold doOne
    split
    · rename_i hc
      obtain ⟨a, ha, e⟩ := q4
      rw [ix_eq e (by omega)]
      by_cases hq : q = lsq σ t k
      · subst hq
        refine Or.inr ⟨hc.1, ?_⟩
        unfold doOn
        rw [su_s]
      · exact Or.inl (doOn_n (by omega) (by omega) (by omega))
    · exact Or.inl rfl
theorem doRow_J {t : Nat} (hS : InvS σ) (h : JJ σ) (ht : t < 4) : ∀ k, k ≤ inN σ t → JJ (doRow σ t k)
  | 0, _ => h
  | k + 1, hk => by
    obtain ⟨h1, h2⟩ := doRow_inv hS ht k (by omega)
    have hin : inN (doRow σ t k) t = inN σ t := by unfold inN; rw [h2 _ (by omega)]
    exact doOne_J h1 (doRow_J hS h ht k (by omega)) ht (by omega)
theorem doAllL_J (hS : InvS σ) (h : JJ σ) : ∀ t, t ≤ 4 → JJ (doAllL σ t)
  | 0, _ => h
  | t + 1, ht => doRow_J (doAllL_inv hS t (by omega)).1 (doAllL_J hS h t (by omega)) (by omega) _ (Nat.le_refl _)
/-- what a trip does, told by its kind and its question -/
def TrR (σ τ : Sr) (k x : Int32) : Prop := (k = -5 ∧ x = -5) ∨ ∃ q, q < ix (σ 4) ∧ x = nI q ∧ ((k = 1 ∧ τ (161 + 11 * q + 4) = 3 ∧ τ (161 + 11 * q + 9) = σ (161 + 11 * q + 9)) ∨ (k = 0 ∧ τ (161 + 11 * q + 4) = 1 ∧ τ (161 + 11 * q + 9) = σ (161 + 11 * q + 9)) ∨ (k = 2 ∧ τ (161 + 11 * q + 4) = 0 ∧ τ (161 + 11 * q + 9) = σ (161 + 11 * q + 9) + 1))
theorem add1_m (a b c : Int32) : a + 1 + b + c = a + b + c + 1 := by
  rw [Int32.add_assoc a 1 b, Int32.add_comm 1 b, ← Int32.add_assoc, Int32.add_assoc (a + b) 1 c, Int32.add_comm 1 c, ← Int32.add_assoc]
theorem add1_n (a b c : Int32) : a + (b + 1) + c = a + b + c + 1 := by
  rw [← Int32.add_assoc, Int32.add_assoc (a + b) 1 c, Int32.add_comm 1 c, ← Int32.add_assoc]
theorem trip_P (hS : InvS σ) (h : JJ σ) : JJ (tripS σ) ∧ tripS σ 0 = σ 0 ∧ tripS σ 11 = σ 11 ∧ tripS σ 8 + tripS σ 9 + tripS σ 10 = σ 8 + σ 9 + σ 10 + (if tripK σ = -5 then 0 else 1) ∧ TrR σ (tripS σ) (tripK σ) (tripQ σ) := by
  unfold tripS tripQ tripK
  by_cases hi : isAns σ = true
  · rw [if_pos hi, if_pos hi, if_pos hi]
    have hi2 := hi
    unfold isAns at hi2
    simp only [Bool.and_eq_true] at hi2
    obtain ⟨t, ht⟩ := Option.isSome_iff_exists.mp hi2.1
    obtain ⟨p, hp⟩ := tgtO_ans ht
    have ht4 := tgtO_lt ht
    have hpl := ansO_lt hp
    rw [ht]
    simp only [hp]
    obtain ⟨q1, q2, q3, -, k, k1, k2, k3⟩ := (hS.lists ht4).2.2 p hpl
    obtain ⟨a1, a2, a3, a4, a5, a6, a7, a8⟩ := ans_P hS h ht4 hpl
    refine ⟨a1, a2, a3, ?_, Or.inr ⟨_, (hS.lists2 ht4 hpl).1, rfl, Or.inl ⟨rfl, a7, a8⟩⟩⟩
    rw [a4, a5, a6, if_neg (by decide)]
    exact add1_m _ _ _
  · rw [if_neg hi, if_neg hi, if_neg hi]
    cases hm : mstO σ with
    | none => exact ⟨h, rfl, rfl, by simp only [if_true]; exact (i32_add0 _).symm, Or.inl ⟨rfl, rfl⟩⟩
    | some m =>
      have hm4 := mstO_lt hm
      obtain ⟨g1, g2⟩ := canB_ok (mstO_can hm)
      obtain ⟨hn, en, hl⟩ := hS.rows hm4
      obtain ⟨p1, p2, p3, p4, p5, p6, p7⟩ := hl 0 (by omega)
      by_cases hf : full σ (tgt0 σ m)
      · simp only [if_pos hf]
        obtain ⟨a1, a2, a3, a4, a5, a6, a7, a8⟩ := back_P hS h hm4 g1
        refine ⟨a1, a2, a3, ?_, Or.inr ⟨_, p2, rfl, Or.inr (Or.inr ⟨rfl, a7, a8⟩)⟩⟩
        rw [a4, a5, a6, if_neg (by decide), Int32.add_assoc (σ 8 + σ 9)]
      · simp only [if_neg hf]
        obtain ⟨a1, a2, a3, a4, a5, a6, a7, a8⟩ := gone_P hS h hm4 g1 g2 hf
        refine ⟨a1, a2, a3, ?_, Or.inr ⟨_, p2, rfl, Or.inr (Or.inl ⟨rfl, a7, a8⟩)⟩⟩
        rw [a4, a5, a6, if_neg (by decide)]
        exact add1_n _ _ _
/-- the ticks are the trips and those without one -/
def Tk (σ : Sr) : Prop := σ 0 = σ 8 + σ 9 + σ 10 + σ 11
theorem tickT_J {k : Int32} {g : Option Nat} (hS : InvS σ) (h : JJ σ) : JJ (tickT σ k g) := h.fr hS (fun s hs => tickT_n (by unfold isJ at hs; omega) (by unfold isJ at hs; omega) (fun j hj => by unfold isJ at hs; omega)) (h.1.fr (fun s hs => tickT_n (by unfold isV at hs; omega) (by unfold isV at hs; omega) (fun j hj => by unfold isV at hs; omega))) (fun q => Or.inl (tickT_n (by omega) (by omega) (fun j hj => by omega)))
theorem tickT_0 {k : Int32} {g : Option Nat} : tickT σ k g 0 = σ 0 + 1 := by
  unfold tickT
  rw [su_s, waitS_n 4 (fun j hj => by omega)]
  unfold idleS
  rw [su_n (by omega)]
theorem tickT_11 {k : Int32} {g : Option Nat} : tickT σ k g 11 = σ 11 + (if k = -5 then 1 else 0) := by
  unfold tickT
  rw [su_n (by omega), waitS_n 4 (fun j hj => by omega)]
  unfold idleS
  rw [su_s]
theorem tick_P (hS : InvS σ) (h : JJ σ) (hT : Tk σ) : JJ (tickS σ) ∧ Tk (tickS σ) ∧ tickS σ 0 = σ 0 + 1 ∧ tickS σ 11 = σ 11 + (if tickK σ = -5 then 1 else 0) ∧ TrR σ (tickS σ) (tickK σ) (tickQ σ) := by
  obtain ⟨d1, d2⟩ := doAllL_inv hS 4 (by omega)
  have d3 := doAllL_J hS h 4 (by omega)
  change InvS (doAllS σ) at d1
  change ∀ j, _ → doAllS σ j = σ j at d2
  change JJ (doAllS σ) at d3
  obtain ⟨t1, t2, t3, t4, t5⟩ := trip_P d1 d3
  have ti := tripS_inv d1
  have e0 : tickS σ 0 = σ 0 + 1 := by unfold tickS; rw [tickT_0, t2, d2 _ (by omega)]
  have e11 : tickS σ 11 = σ 11 + (if tickK σ = -5 then 1 else 0) := by unfold tickS; rw [tickT_11, t3, d2 _ (by omega)]; rfl
  refine ⟨tickT_J ti t1, ?_, e0, e11, ?_⟩
  · unfold Tk at hT ⊢
    rw [e0, e11, tickS_w 8 (by omega) (by omega) (fun j hj => by omega), tickS_w 9 (by omega) (by omega) (fun j hj => by omega), tickS_w 10 (by omega) (by omega) (fun j hj => by omega), t4, d2 _ (by omega), d2 _ (by omega), d2 _ (by omega), hT]
    show _ = _ + (if tickK σ = -5 then 0 else 1) + _
    by_cases c : tickK σ = -5
    · rw [if_pos c, if_pos c, i32_add0, Int32.add_assoc]
    · rw [if_neg c, if_neg c, i32_add0, Int32.add_assoc (σ 8 + σ 9 + σ 10) 1, Int32.add_comm 1, ← Int32.add_assoc]
  · unfold TrR at t5 ⊢
    rcases t5 with t5 | ⟨q, q1, q2, q3⟩
    · exact Or.inl t5
    · refine Or.inr ⟨q, by rw [← doAll_4 hS]; exact q1, q2, ?_⟩
      rw [tickS_w _ (by omega) (by omega) (fun j hj => by omega), tickS_w _ (by omega) (by omega) (fun j hj => by omega), ← d2 (161 + 11 * q + 9) (by omega)]
      exact q3
end TCK
