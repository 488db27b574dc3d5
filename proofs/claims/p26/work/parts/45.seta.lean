def St.wσ (S : St) (τ : Sr) : St := (τ, S.2)
/-- where the questions can be -/
def WOK (σ : Sr) : Prop := ∀ q, q < ix (σ 4) → σ (161 + 11 * q + 4) = 0 ∨ σ (161 + 11 * q + 4) = 1 ∨ σ (161 + 11 * q + 4) = 2 ∨ σ (161 + 11 * q + 4) = 3 ∨ σ (161 + 11 * q + 4) = 4
def WS (S : St) : Prop := WOK S.σ ∧ (S.kp ≠ 0 → WOK S.κ) ∧ ∀ j, j < S.c → WOK (S.hs j)
theorem WOK.cg {σ τ : Sr} (h : WOK σ) (hA : ix (σ 4) ≤ 200) (hc : ∀ k, k < 2361 → τ k = σ k) : WOK τ := by
  intro q hq
  rw [hc 4 (by omega)] at hq
  rw [hc _ (by omega)]
  exact h q hq
theorem WOK.s1 {σ : Sr} (h : WOK σ) {k : Nat} {x : Int32} (h1 : k < 161) (h4 : k ≠ 4) : WOK (su σ k x) := by
  intro q hq
  rw [su_n (by omega)] at hq
  rw [su_n (by omega)]
  exact h q hq
theorem WS.r {S : St} (h : WS S) : WS S.rec' := by
  obtain ⟨h1, h2, h3⟩ := h
  unfold St.rec'
  split
  · refine ⟨h1, h2, fun j hj => ?_⟩
    show WOK (if j = S.c then S.σ else S.hs j)
    have hj' : j < S.c + 1 := hj
    split
    · exact h1
    · exact h3 j (by omega)
  · rename_i hc
    refine ⟨h1, h2, fun j hj => ?_⟩
    show WOK (if j = 3 then S.σ else S.hs (j + 1))
    have hj' : j < 3 + 1 := hj
    split
    · exact h1
    · exact h3 (j + 1) (by omega)
theorem WS.w {S : St} (h : WS S) {τ : Sr} (hw : WOK τ) : WS (S.wσ τ) := ⟨hw, h.2⟩
theorem Gt_or {n : Nat} (x : Int32) : (∃ m, m < n ∧ x = nI m) ∨ ∀ m, m < n → x ≠ nI m := by
  by_cases h : ∃ m, m < n ∧ x = nI m
  · exact Or.inl h
  · exact Or.inr (fun m hm e => h ⟨m, hm, e⟩)
section SA
variable {K : MK} {R : MR} {I J : MI} {t r b : Nat} {S : St}
theorem c_in {Q : Int32 → MI → Prop} {x lo hi : Int32} (h1 : lo ≤ x ∧ x ≤ hi → Q 1 I) (h2 : ¬ (lo ≤ x ∧ x ≤ hi) → Q 0 I) : w_X6_isBetween K R x lo hi I Q := by
  unfold w_X6_isBetween w_X6_isBetween_b14 w_X6_isBetween_b15
  refine ⟨fun c => ⟨bz0, h2 fun z => absurd z.1 (Int32.not_le.mpr c)⟩, fun c => ⟨fun d => ⟨bz0, h2 fun z => absurd z.2 (Int32.not_le.mpr d)⟩, fun d => ⟨bz1, h1 ⟨Int32.not_lt.mp c, Int32.not_lt.mp d⟩⟩⟩⟩
theorem c_in1 {Q : Int32 → MI → Prop} {x lo hi : Int32} (hx : lo ≤ x ∧ x ≤ hi) (h : Q 1 I) : w_X6_isBetween K R x lo hi I Q := c_in (fun _ => h) (fun z => absurd hx z)
theorem c_in0 {Q : Int32 → MI → Prop} {x lo hi : Int32} (hx : ¬ (lo ≤ x ∧ x ≤ hi)) (h : Q 0 I) : w_X6_isBetween K R x lo hi I Q := c_in (fun z => absurd z hx) (fun _ => h)
theorem idx_no {x : Int32} {n : Nat} (hn : n < 2 ^ 31) (hx : ∀ m, m < n → x ≠ nI m) : ¬ ((0 : Int32) ≤ x ∧ ¬ nI n ≤ x) := by
  intro z
  obtain ⟨j, hj, e⟩ := le_nI z.1 (Int32.le_of_lt (Int32.not_le.mp z.2)) hn
  rcases Nat.lt_or_ge j n with c | c
  · exact hx j c e
  · exact z.2 (by rw [e, show j = n by omega]; exact Int32.le_refl _)
theorem in_idx {x : Int32} {n : Nat} (hn : n < 2 ^ 31) : ((0 : Int32) ≤ x ∧ x ≤ nI n) ↔ ∃ m, m < n + 1 ∧ x = nI m := by
  constructor
  · intro z
    obtain ⟨j, hj, e⟩ := le_nI z.1 z.2 hn
    exact ⟨j, by omega, e⟩
  · rintro ⟨m, hm, e⟩
    rw [e]
    exact ⟨nI_pos' (by omega), (nI_leI (by omega) (by omega)).mpr (by omega)⟩
theorem c_idxN {Q : Int32 → MI → Prop} {x : Int32} {n : Nat} (hn : n < 2 ^ 31) (hx : ∀ m, m < n → x ≠ nI m) (h : Q 0 I) : w_X6_isIndex K R x (nI n) I Q := c_idx0 (idx_no hn hx) h
theorem c_masterNo {Q : Option Nat → MI → Prop} {x : Int32} (hx : ∀ m, m < 4 → x ≠ nI m) (h : Q none I) : w_X0_masterAt K R b x I Q := by
  unfold w_X0_masterAt w_X0_masterAt_b18
  exact c_idxN (n := 4) (by decide) hx ⟨fun _ => h, fun c => absurd rfl c⟩
theorem c_targetNo {Q : Option Nat → MI → Prop} {x : Int32} (hx : ∀ m, m < 4 → x ≠ nI m) (h : Q none I) : w_X0_targetAt K R b x I Q := by
  unfold w_X0_targetAt w_X0_targetAt_b18
  exact c_idxN (n := 4) (by decide) hx ⟨fun _ => h, fun c => absurd rfl c⟩
theorem CT.w {ρ' τ : Sr} (h : CT K R t I S) (hr : RelB ρ' τ) : CT K R t (stB I (t + 1) ρ') (S.wσ τ) := by
  obtain ⟨h1, h2, h3, h4, h5, ⟨h6, h7⟩, h8, h9, h10, h11, h12, h13⟩ := h
  have ho : ∀ a, a < t + 1 ∨ t + 1 + 238 ≤ a → stB I (t + 1) ρ' a = I a := fun a ha => by funext j; exact stB_o ha
  refine ⟨h1, hr.cg (fun k hk _ => rowB_stB hk) (fun _ _ => rfl), by rw [ho t (by omega)]; exact h3, h4, fun z => (h5 z).fr (fun a ha hb => ho a (by omega)), ⟨h6, by rw [ho t (by omega)]; exact h7⟩, by rw [ho _ (by omega)]; exact h8, by rw [ho _ (by omega)]; exact h9, fun j hj => ?_, h11, by rw [ho _ (by omega)]; exact h12, fun i hi => by rw [ho _ (by omega)]; exact h13 i hi⟩
  rw [ho _ (by omega)]
  exact (h10 j hj).fr (fun a ha hb => ho a (by unfold pastA at ha; omega))
theorem FrC_stB {ρ' : Sr} : FrC t I (stB I (t + 1) ρ') := fun a ha => by funext j; exact stB_o (by omega)
theorem CT.rd (h : CT K R t I S) {o s k a : Nat} (hs : slotO o s = some k) (ha : a = t + 1 + o) (h1 : k < 161 + 11 * ix (S.σ 4)) (h2 : k ≠ 5) (h3 : ¬ (161 ≤ k ∧ (k - 161) % 11 = 10)) : I a s = S.σ k := by
  have := stB_at (J := I) (ρ := rowB I (t + 1)) hs ha
  rw [stB_self] at this
  rw [this]
  exact h.2.1.2.2.1.1 k h1 h2 h3
theorem c_recset {Q : MI → Prop} {o s k a : Nat} {x : Int32} (h : CT K R t I S) (hs : slotO o s = some k) (ha : a = t + 1 + o) (hr : ∀ ρ, RelB ρ S.σ → RelB (su ρ k x) (su S.σ k x)) (hQ : ∀ I', CT K R t I' (S.rec'.wσ (su S.σ k x)) → FrC t I I' → Q I') : w_X6_record K R t I (fun I3 => Q (upI I3 a s x)) := by
  refine c_record h (fun I' hc hf => ?_)
  have e : upI I' a s x = stB I' (t + 1) (su (rowB I' (t + 1)) k x) := by
    have := up_at (J := I') (ρ := rowB I' (t + 1)) (x := x) hs ha
    rw [stB_self] at this
    exact this
  rw [e]
  have hR := hc.2.1
  rw [rec_σ] at hR
  exact hQ _ (hc.w (hr _ hR)) (hf.trans FrC_stB)
theorem RelB.su1 {ρ σ : Sr} {k : Nat} {x : Int32} (h : RelB ρ σ) (hk : k ≠ 2 ∧ k ≠ 5 ∧ k < 161 ∧ ¬ isStr k) : RelB (su ρ k x) (su σ k x) := by
  obtain ⟨hS, hM, ⟨g1, g2⟩, hL, hC⟩ := h
  have hn : ∀ j, j ≠ k → su σ k x j = σ j := fun j hj => su_n hj
  have hne : ∀ j, isStr j → j ≠ k := fun j hj e => hk.2.2.2 (e ▸ hj)
  have e4 : su σ k x 4 = σ 4 := hn 4 (hne 4 (by simp [isStr]))
  refine ⟨hS.fr (fun j hj => hn j (hne j hj)) (fun q => Or.inl (hn _ (by omega))), by rw [hn 2 (by omega)]; exact hM, ⟨?_, ?_⟩, by rw [hn 5 (by omega), su_n (by omega)]; exact hL, hC.fr hS (fun j hj => su_n (by omega)) (hn 1 (hne 1 (by simp [isStr]))) e4 (fun j hj => hn _ (hne _ (by unfold isStr; omega))) (fun q hq => hn _ (by omega)) (fun q hq => by rw [hn _ (by omega)]) (fun q hq => hn _ (by omega))⟩
  · rw [e4]; exact g1.both
  · rw [e4]
    refine g2.fr (fun q hq ho => ⟨?_, su_n (by omega), hn _ (by omega)⟩)
    unfold OnT at ho ⊢
    rw [hn _ (by omega)] at ho
    exact ho
end SA
