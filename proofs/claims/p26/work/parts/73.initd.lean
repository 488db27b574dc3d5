/-! A NEW MODEL; how both begin -/
def sM (y k : Nat) : Int32 :=
  if k = 1 then 4 else if k = 3 then 12 else if k = 5 then 1
  else if 21 ≤ k ∧ k < 21 + 11 * y ∧ (k - 21) % 11 = 7 then 2
  else if 65 ≤ k ∧ k < 65 + 24 * y ∧ (k - 65) % 24 = 16 then 2
  else if 65 ≤ k ∧ k < 65 + 24 * y ∧ (k - 65) % 24 = 17 then 3 else 0
def sL (y k : Nat) : Int32 := if 13 ≤ k ∧ k < 13 + y then -5 else sM 4 k
def σ0 : Sr := sL 8
theorem sM_step {y : Nat} (hy : y < 4) {f : Nat → Int32} (hf : f = sM y) : (fun j => if j = 65 + 24 * y + 17 then (3 : Int32) else if j = 65 + 24 * y + 16 then 2 else if j = 21 + 11 * y + 7 then 2 else f j) = sM (y + 1) := by
  subst hf
  funext j
  show (if j = 65 + 24 * y + 17 then (3 : Int32) else if j = 65 + 24 * y + 16 then 2 else if j = 21 + 11 * y + 7 then 2 else sM y j) = sM (y + 1) j
  unfold sM
  by_cases a1 : j = 65 + 24 * y + 17
  · rw [if_pos a1, if_neg (by omega), if_neg (by omega), if_neg (by omega), if_neg (by omega), if_neg (by omega), if_pos (by omega)]
  · rw [if_neg a1]
    by_cases a2 : j = 65 + 24 * y + 16
    · rw [if_pos a2, if_neg (by omega), if_neg (by omega), if_neg (by omega), if_neg (by omega), if_pos (by omega)]
    · rw [if_neg a2]
      by_cases a3 : j = 21 + 11 * y + 7
      · rw [if_pos a3, if_neg (by omega), if_neg (by omega), if_neg (by omega), if_pos (by omega)]
      · rw [if_neg a3]
        have c1 : (21 ≤ j ∧ j < 21 + 11 * y ∧ (j - 21) % 11 = 7) = (21 ≤ j ∧ j < 21 + 11 * (y + 1) ∧ (j - 21) % 11 = 7) := propext ⟨fun h => by omega, fun h => by omega⟩
        have c2 : (65 ≤ j ∧ j < 65 + 24 * y ∧ (j - 65) % 24 = 16) = (65 ≤ j ∧ j < 65 + 24 * (y + 1) ∧ (j - 65) % 24 = 16) := propext ⟨fun h => by omega, fun h => by omega⟩
        have c3 : (65 ≤ j ∧ j < 65 + 24 * y ∧ (j - 65) % 24 = 17) = (65 ≤ j ∧ j < 65 + 24 * (y + 1) ∧ (j - 65) % 24 = 17) := propext ⟨fun h => by omega, fun h => by omega⟩
        simp only [c1, c2, c3]
section MO
variable {a : Nat} {K : MK} {R : MR} {n : Nat} {Q : MK → MR → MI → Nat → Prop}
end MO
/-! the first states agree -/
theorem b_ag : ∀ k, k < 161 → k ≠ 5 → iB0 (cof k).1 (cof k).2 = σ0 k := by decide +kernel
theorem b_cn : ∀ m, m < 4 → iB0 (cof (2361 + m)).1 (cof (2361 + m)).2 = nI (holdsN σ0 m) ∧ iB0 (cof (2365 + m)).1 (cof (2365 + m)).2 = nI (ansN σ0 m) ∧ iB0 (cof (2369 + m)).1 (cof (2369 + m)).2 = lonL σ0 m (ix (σ0 4)) := by decide +kernel
theorem σ0_4 : ix (σ0 4) = 0 := by decide +kernel
theorem inv_0 : InvS σ0 := by
  refine ⟨4, 0, by decide +kernel, by omega, by omega, by decide +kernel, by omega, ⟨0, by omega, by decide +kernel⟩, ⟨0, by omega, by decide +kernel⟩, fun k hk => Or.inl ?_, fun m hm => ⟨0, by omega, ?_, fun j hj => absurd hj (by omega)⟩, fun t ht => ⟨0, 2, by omega, ?_, by omega, by omega, ?_, fun j hj => absurd hj (by omega)⟩, fun q hq => absurd hq (by omega)⟩
  · have : ∀ k, k < 8 → σ0 (13 + k) = -5 := by decide +kernel
    exact this k hk
  · have : ∀ m, m < 4 → σ0 (21 + 11 * m + 0) = nI 0 := by decide +kernel
    exact this m hm
  · have : ∀ t, t < 4 → σ0 (65 + 24 * t + 19) = nI 0 := by decide +kernel
    exact this t ht
  · have : ∀ t, t < 4 → σ0 (65 + 24 * t + 16) = nI 2 := by decide +kernel
    exact this t ht
theorem rel_0 {I : MI} {b : Nat} (h : BuI I b 238) : RelB (rowB I b) σ0 := by
  have e : ∀ k, k < 2381 → rowB I b k = iB0 (cof k).1 (cof k).2 := fun k hk => by
    unfold rowB
    rw [h _ (cof_lt hk)]
  refine ⟨inv_0, Or.inl (by decide +kernel), ⟨?_, ?_⟩, ?_, ?_⟩
  · rw [σ0_4]
    intro k h1 h2 h3
    rw [e k (by omega)]
    exact b_ag k (by omega) h2
  · rw [σ0_4]
    intro q hq
    exact absurd hq (by omega)
  · rw [e 5 (by omega)]
    decide +kernel
  · intro m hm
    rw [e _ (by omega), e _ (by omega), e _ (by omega)]
    exact b_cn m hm
def S0 : St := (σ0, 0, σ0, 0, (fun _ => σ0), 0, fun _ => 0)
theorem ws_0 : WS S0 := by
  have h : WOK σ0 := fun q hq => by rw [σ0_4] at hq; exact absurd hq (by omega)
  exact ⟨h, fun _ => h, fun _ _ => h⟩
/-- the ghosts of the history's array -/
def gR (R : MR) (t : Nat) : MR := fun b k => if b = t + 715 ∧ k < 4 then (fun g => some (pastA t g)) else R b k
def gI (I : MI) (t : Nat) : MI := fun b k => if b = t + 715 ∧ k < 4 then nI k else I b k
theorem gR_o {R : MR} {t b : Nat} (h : b ≠ t + 715) : gR R t b = R b := by funext k; simp [gR, h]
theorem gI_o {I : MI} {t b : Nat} (h : b ≠ t + 715) : gI I t b = I b := by funext k; simp [gI, h]
theorem gs_0 {K : MK} {R : MR} {I : MI} {t : Nat} (hA : TgA K R t) (hP : TgP K R t 4) : GS K R I (gR R t) (gI I t) := by
  intro E n H hR
  have hKa : K (t + 715) = some (.inl (5, 4)) := hA.2.2.2.2.2.2.2.2.1
  refine hR.putA (H1 := H) hKa ?_ rfl (fun _ _ => rfl) (fun b hb => gI_o hb) (fun b hb => gR_o hb)
  have h2 : H[t + 715]? = some (arC E.2.1 5 4 (R (t + 715)) (I (t + 715))) := (hR.2 _ _ hKa).2
  rw [h2, arC_r E.2.1 (t := 5) rfl, arC_r E.2.1 (t := 5) rfl]
  refine congrArg (fun z => some (arrV (E.2.1 5) 4 z)) ?_
  funext j
  by_cases hj : j < 4
  · have e1 : gR R t (t + 715) j = fun g => some (pastA t g) := by simp [gR, hj]
    have e2 : gI I t (t + 715) j = nI j := by simp [gI, hj]
    rw [e1, e2, (hP j hj).1]
    show va_rf (some (t + 729 + 238 * j)) = va_rf (some (t + 729 + 238 * ix (nI j)))
    rw [ix_nI (by omega)]
  · have e1 : gR R t (t + 715) j = R (t + 715) j := by simp [gR, hj]
    have e2 : gI I t (t + 715) j = I (t + 715) j := by simp [gI, hj]
    rw [e1, e2]
theorem start_CT {K : MK} {R : MR} {I : MI} {t : Nat} (hA : TgA K R t) (hP : TgP K R t 4) (hI : TgI I t) : CT K (gR R t) t (gI I t) S0 := by
  have hA2 : TgA K (gR R t) t := hA.cg (fun _ _ _ => rfl) (fun b _ _ h => gR_o h)
  obtain ⟨h1, h2, h3, h4, h5, h6, h7, h8, h9, h10, h11⟩ := hA2
  obtain ⟨i1, i2, i3⟩ := hI
  have e2 : ∀ j, j < 4 → gI I t (t + 715) j = nI j := fun j hj => by simp [gI, hj]
  have it : gI I t t = fun _ => 0 := by rw [gI_o (by omega)]; exact i1
  refine ⟨⟨h1, h2, h3, h4, h5, h6, h7, h8, h9, h10, h11, fun i hi g => ?_, fun g hg => ?_⟩, ?_, ?_, Or.inl rfl, fun z => absurd rfl z, ⟨Nat.zero_le _, ?_⟩, fun j hj => ?_, fun i j hi hj hne => ?_, fun j hj => absurd hj (Nat.not_lt_zero _), Nat.zero_le _, ?_, fun i hi => absurd hi (Nat.not_lt_zero _)⟩
  · simp [gR, hi]
  · unfold pastA
    exact (hP _ hg).2.cg (fun b x y => ⟨rfl, gR_o (by omega)⟩)
  · show RelB _ σ0
    exact rel_0 (i2.cg (fun b x y => gI_o (by omega)))
  · rw [it]; rfl
  · rw [it]; rfl
  · rw [e2 j hj, ix_nI (by omega)]; exact hj
  · rw [e2 j hj, e2 i hi, ix_nI (by omega), ix_nI (by omega)]; exact hne
  · rw [gI_o (by omega), i3]; rfl
