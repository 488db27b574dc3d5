def sndHead (σ : Sr) (m : Nat) : Sr := su (su σ 7 (nI (t4 m 1))) 5 0
def refS1 (σ : Sr) (m q : Nat) : Sr := su (su σ (21 + 11 * m + 8) (σ (21 + 11 * m + 8) + 1)) (161 + 11 * q + 9) (su σ (21 + 11 * m + 8) (σ (21 + 11 * m + 8) + 1) (161 + 11 * q + 9) + 1)
def refS2 (σ : Sr) (m q : Nat) : Sr := su (refS1 σ m q) 10 (refS1 σ m q 10 + 1)
def refS (σ : Sr) (m q : Nat) : Sr := su (refS2 σ m q) (21 + 11 * m + 9) (refS2 σ m q 0 + 1 + (if refS2 σ m q (21 + 11 * m + 8) ≤ 3 then (1 : Int32) <<< (refS2 σ m q (21 + 11 * m + 8) &&& 31) else (16 : Int32)))
def remR (τ : Sr) (m : Nat) : Sr := su (shf τ (21 + 11 * m + 1) 0 (loN τ m - 1)) (21 + 11 * m + 0) (shf τ (21 + 11 * m + 1) 0 (loN τ m - 1) (21 + 11 * m + 0) - 1)
def sndQa (τ : Sr) (m q g : Nat) : Sr := su (su (su (su τ (21 + 11 * m + 8) 0) (13 + g) (nI q)) (161 + 11 * q + 5) (nI g)) (161 + 11 * q + 4) 1
def sndQ0 (τ : Sr) (m q t g : Nat) : Sr := su (sndQa τ m q g) (161 + 11 * q + 10) (sndQa τ m q g 0 + sndQa τ m q g (65 + 24 * t + 17) + (sndQa τ m q g (161 + 11 * q + 2) - sndQa τ m q g (161 + 11 * q + 2) / 4 * 4))
def appL (e : Sr) (t q : Nat) : Sr := su (su e (65 + 24 * t + 20 + inN e t) (nI q)) (65 + 24 * t + 19) (su e (65 + 24 * t + 20 + inN e t) (nI q) (65 + 24 * t + 19) + 1)
def sndQ (τ : Sr) (m q t g : Nat) : Sr := su (appL (sndQ0 τ m q t g) t q) 9 (appL (sndQ0 τ m q t g) t q 9 + 1)
abbrev full (σ : Sr) (t : Nat) : Prop := ¬ σ (65 + 24 * t + 19) < σ (65 + 24 * t + 16)
def tgt0 (σ : Sr) (m : Nat) : Nat := ix (σ (161 + 11 * rwq σ m 0 + 1))
def goneS (σ : Sr) (m : Nat) : Sr := sndQ (remR (sndHead σ m) m) m (rwq σ m 0) (tgt0 σ m) ((freeO (sndHead σ m)).getD 0)
def backS (σ : Sr) (m : Nat) : Sr := refS (sndHead σ m) m (rwq σ m 0)
theorem sndHead_n {σ : Sr} {m s : Nat} (h : s ≠ 5 ∧ s ≠ 7) : sndHead σ m s = σ s := by
  unfold sndHead
  rw [su_n h.1, su_n h.2]
theorem sndHead_inv {σ : Sr} (hS : InvS σ) (m : Nat) : InvS (sndHead σ m) := by
  obtain ⟨h1, h2, h3, h4⟩ := hS.turns
  refine hS.fr2 (fun k hk h6 h7 => sndHead_n (by unfold isStr at hk; omega)) ⟨_, h1, ?_⟩ ⟨t4 m 1, t4_lt _ _, ?_⟩ (fun q => Or.inl (sndHead_n (by omega)))
  · rw [sndHead_n (by omega)]; exact h2
  · unfold sndHead
    rw [su_n (by omega), su_s]
theorem freeO_head {σ : Sr} {m : Nat} : freeO (sndHead σ m) = freeO σ := by
  unfold freeO Tg_
  rw [sndHead_n (by omega)]
  have : (fun k => sndHead σ m (13 + k) == -5) = (fun k => σ (13 + k) == -5) := by
    funext k
    rw [sndHead_n (by omega)]
  rw [this]
theorem refS_n {σ : Sr} {m q s : Nat} (h : s ≠ 21 + 11 * m + 8 ∧ s ≠ 161 + 11 * q + 9 ∧ s ≠ 10 ∧ s ≠ 21 + 11 * m + 9) : refS σ m q s = σ s := by
  unfold refS refS2 refS1
  rw [su_n h.2.2.2, su_n h.2.2.1, su_n h.2.1, su_n h.1]
theorem refS_inv {σ : Sr} (hS : InvS σ) {m q : Nat} (hm : m < 4) : InvS (refS σ m q) := hS.fr (fun k hk => refS_n (by unfold isStr at hk; omega)) (fun q' => Or.inl (refS_n (by omega)))
theorem remR_n {σ : Sr} {m s : Nat} (hn : loN σ m ≤ 6) (h : s < 21 + 11 * m ∨ 21 + 11 * m + 7 ≤ s) : remR σ m s = σ s := by
  unfold remR
  rw [su_n (by omega)]
  exact shf_out _ (fun j h1 h2 => by omega)
theorem remR_at {σ : Sr} (hS : InvS σ) {m : Nat} (hm : m < 4) (h1 : 1 ≤ loN σ m) : remR σ m (21 + 11 * m + 0) = nI (loN σ m - 1) ∧ ∀ j, j < loN σ m - 1 → remR σ m (21 + 11 * m + 1 + j) = σ (21 + 11 * m + 1 + (j + 1)) := by
  obtain ⟨hn, en, hl⟩ := hS.rows hm
  refine ⟨?_, fun j hj => ?_⟩
  · unfold remR
    rw [su_s, shf_out _ (fun j h1 h2 => by omega), en, nI_sub1 h1]
  · unfold remR
    rw [su_n (by omega), shf_in _ (by omega) (by omega)]
    rfl
theorem remR_inv {σ : Sr} (hS : InvS σ) {m : Nat} (hm : m < 4) (h1 : 1 ≤ loN σ m) : InvS (remR σ m) ∧ ∀ m', m' < 4 → ∀ j, j < loN (remR σ m) m' → remR σ m (21 + 11 * m' + 1 + j) ≠ nI (rwq σ m 0) := by
  obtain ⟨hn, en, hl⟩ := hS.rows hm
  obtain ⟨e1, e2⟩ := remR_at hS hm h1
  have hnn : ∀ s, s < 21 + 11 * m ∨ 21 + 11 * m + 7 ≤ s → remR σ m s = σ s := fun s h => remR_n hn h
  have hlo : loN (remR σ m) m = loN σ m - 1 := ix_eq e1 (by omega)
  have hS' := hS
  obtain ⟨T, A, a1, a2, a3, a4, a5, a6, a7, a8, a9, a10, a11⟩ := hS
  have hA : ix (σ 4) = A := ix_eq a4 (by omega)
  refine ⟨⟨T, A, by rw [hnn _ (by omega)]; exact a1, a2, a3, by rw [hnn _ (by omega)]; exact a4, a5, by rw [hnn _ (by omega)]; exact a6, by rw [hnn _ (by omega)]; exact a7, fun k hk => (a8 k hk).fr (hnn _ (by omega)) (Nat.le_refl _), fun m' hm' => ?_, fun t ht => (a10 t ht).fr (fun w hw' => hnn _ (by omega)) (fun n j q k g0 g1 g2 g3 g4 g5 g6 g7 g8 => ⟨by unfold OnT at g5 ⊢; rw [hnn _ (by omega)]; exact g5, hnn _ (by omega), hnn _ (by omega), hnn _ (by omega)⟩) (Nat.le_refl _), fun q hq => (a11 q hq).fr (fun w hw' => hnn _ (by omega))⟩, fun m' hm' j hj => ?_⟩
  · by_cases e : m' = m
    · subst e
      refine ⟨loN σ m' - 1, by omega, e1, fun j hj => ?_⟩
      obtain ⟨q1, q2, q3, q4, q5, q6, q7⟩ := hl (j + 1) (by omega)
      refine ⟨rwq σ m' (j + 1), by omega, by rw [e2 j hj]; exact q3, by rw [hnn _ (by omega)]; exact q4, by rw [hnn _ (by omega)]; exact q5, fun i hi => ?_⟩
      rw [e2 i (by omega)]
      exact q7 (i + 1) (by omega)
    · exact (a9 m' hm').fr (fun w hw' => hnn _ (by omega)) (fun L j q g0 g1 g2 g3 g4 g5 => ⟨by rw [hnn _ (by omega)]; exact g5, hnn _ (by omega)⟩) (Nat.le_refl _)
  · by_cases e : m' = m
    · subst e
      rw [e2 j (by omega)]
      obtain ⟨q1, q2, q3, q4, q5, q6, q7⟩ := hl (j + 1) (by omega)
      intro z
      have := q7 0 (by omega)
      rw [(hl 0 (by omega)).2.2.1] at this
      rw [q3] at z
      exact this z.symm
    · obtain ⟨hn', -, hl'⟩ := hS'.rows hm'
      have hj2 : j < loN σ m' := by
        have : loN (remR σ m) m' = loN σ m' := by unfold loN; rw [hnn _ (by omega)]
        omega
      rw [hnn _ (by omega)]
      obtain ⟨q1, q2, q3, q4, q5, q6, q7⟩ := hl' j hj2
      obtain ⟨p1, p2, p3, p4, p5, p6, p7⟩ := hl 0 (by omega)
      rw [q3]
      intro z
      have z2 := nI_inj (by omega) (by omega) z
      rw [z2, p5] at q5
      exact e (nI_inj (by omega) (by omega) q5).symm
theorem sndQ0_n {τ : Sr} {m q t g s : Nat} (h : s ≠ 21 + 11 * m + 8 ∧ s ≠ 13 + g ∧ s ≠ 161 + 11 * q + 5 ∧ s ≠ 161 + 11 * q + 4 ∧ s ≠ 161 + 11 * q + 10) : sndQ0 τ m q t g s = τ s := by
  unfold sndQ0 sndQa
  rw [su_n h.2.2.2.2, su_n h.2.2.2.1, su_n h.2.2.1, su_n h.2.1, su_n h.1]
theorem sndQ0_inv {τ : Sr} (hS : InvS τ) {m q t g : Nat} (hm : m < 4) (hq : q < ix (τ 4)) (hg : g < Tg_ τ) (hL : τ (13 + g) = -5) (h0 : τ (161 + 11 * q + 4) = 0) (hno : ∀ m', m' < 4 → ∀ j, j < loN τ m' → τ (21 + 11 * m' + 1 + j) ≠ nI q) : InvS (sndQ0 τ m q t g) := by
  obtain ⟨T, A, a1, a2, a3, a4, a5, a6, a7, a8, a9, a10, a11⟩ := hS
  have hA : ix (τ 4) = A := ix_eq a4 (by omega)
  have hT : Tg_ τ = T := ix_eq a1 (by omega)
  have hn : ∀ s, (s ≠ 21 + 11 * m + 8 ∧ s ≠ 13 + g ∧ s ≠ 161 + 11 * q + 5 ∧ s ≠ 161 + 11 * q + 4 ∧ s ≠ 161 + 11 * q + 10) → sndQ0 τ m q t g s = τ s := fun s h => sndQ0_n h
  refine ⟨T, A, by rw [hn _ (by omega)]; exact a1, a2, a3, by rw [hn _ (by omega)]; exact a4, a5, by rw [hn _ (by omega)]; exact a6, by rw [hn _ (by omega)]; exact a7, fun k hk => ?_, fun m' hm' => (a9 m' hm').fr (fun w hw' => hn _ (by omega)) (fun L j q' g0 g1 g2 g3 g4 g5 => ?_) (Nat.le_refl _), fun t' ht' => (a10 t' ht').fr (fun w hw' => hn _ (by omega)) (fun n j q' k g0 g1 g2 g3 g4 g5 g6 g7 g8 => ?_) (Nat.le_refl _), fun q' hq' => (a11 q' hq').fr (fun w hw' => hn _ (by omega))⟩
  · by_cases e : k = g
    · subst e
      refine Or.inr ⟨by omega, q, by omega, ?_⟩
      unfold sndQ0 sndQa
      rw [su_n (by omega), su_n (by omega), su_n (by omega), su_s]
    · exact (a8 k hk).fr (hn _ (by omega)) (Nat.le_refl _)
  · have hlo : loN τ m' = L := ix_eq g1 (by omega)
    have hne : q' ≠ q := fun e => hno m' hm' j (by omega) (by rw [g4, e])
    exact ⟨by rw [hn _ (by omega)]; exact g5, hn _ (by omega)⟩
  · have hne : q' ≠ q := fun e => by
      subst e
      unfold OnT at g5
      rw [h0] at g5
      rcases g5 with g5 | g5 <;> exact absurd g5 (by decide)
    have hk' : k ≠ g := fun e => by
      subst e
      rw [hL] at g8
      exact nI_ne5 (by omega) g8.symm
    exact ⟨by unfold OnT at g5 ⊢; rw [hn _ (by omega)]; exact g5, hn _ (by omega), hn _ (by omega), hn _ (by omega)⟩
theorem appL_n {e : Sr} {t q s : Nat} (hn : inN e t < 4) (h : s < 65 + 24 * t + 19 ∨ 65 + 24 * t + 24 ≤ s) : appL e t q s = e s := by
  unfold appL
  rw [su_n (by omega), su_n (by omega)]
theorem appL_inv {e : Sr} (hS : InvS e) {t q g : Nat} (ht : t < 4) (hq : q < ix (e 4)) (hn : inN e t < 4) (h1 : OnT e q) (h2 : e (161 + 11 * q + 1) = nI t) (hg : g < 8) (h3 : e (161 + 11 * q + 5) = nI g) (h4 : e (13 + g) = nI q) (hno : ∀ j, j < inN e t → e (65 + 24 * t + 20 + j) ≠ nI q) : InvS (appL e t q) := by
  obtain ⟨hn4, en, hl⟩ := hS.lists ht
  have hS' := hS
  obtain ⟨T, A, a1, a2, a3, a4, a5, a6, a7, a8, a9, a10, a11⟩ := hS
  have hA : ix (e 4) = A := ix_eq a4 (by omega)
  have hnn : ∀ s, s < 65 + 24 * t + 19 ∨ 65 + 24 * t + 24 ≤ s → appL e t q s = e s := fun s h => appL_n hn h
  have hold : ∀ j, j < inN e t → appL e t q (65 + 24 * t + 20 + j) = e (65 + 24 * t + 20 + j) := fun j hj => by
    unfold appL
    rw [su_n (by omega), su_n (by omega)]
  refine ⟨T, A, by rw [hnn _ (by omega)]; exact a1, a2, a3, by rw [hnn _ (by omega)]; exact a4, a5, by rw [hnn _ (by omega)]; exact a6, by rw [hnn _ (by omega)]; exact a7, fun k hk => (a8 k hk).fr (hnn _ (by omega)) (Nat.le_refl _), fun m hm => (a9 m hm).fr (fun w hw' => hnn _ (by omega)) (fun L j q g0 g1 g2 g3 g4 g5 => ⟨by rw [hnn _ (by omega)]; exact g5, hnn _ (by omega)⟩) (Nat.le_refl _), fun t' ht' => ?_, fun q hq => (a11 q hq).fr (fun w hw' => hnn _ (by omega))⟩
  by_cases et : t' = t
  · subst et
    obtain ⟨n, rm, hn2, en2, r1, r2, r3, hj'⟩ := a10 t' ht
    refine ⟨inN e t' + 1, rm, by omega, ?_, r1, r2, by rw [hnn _ (by omega)]; exact r3, fun j hj => ?_⟩
    · unfold appL
      rw [su_s, su_n (by omega), en, nI_1]
    · by_cases ej : j = inN e t'
      · refine ⟨q, g, by omega, ?_, by unfold OnT at h1 ⊢; rw [hnn _ (by omega)]; exact h1, by rw [hnn _ (by omega)]; exact h2, hg, by rw [hnn _ (by omega)]; exact h3, by rw [hnn _ (by omega)]; exact h4, fun i hi => ?_⟩
        · subst ej
          unfold appL
          rw [su_n (by omega), su_s]
        · rw [hold i (by omega)]
          exact hno i (by omega)
      · have hj2 : j < inN e t' := by omega
        obtain ⟨q1, q2, q3, q4, k, k1, k2, k3⟩ := hl j hj2
        obtain ⟨w1, w2, w3⟩ := hS'.lists2 ht hj2
        refine ⟨lsq e t' j, k, by omega, by rw [hold j hj2]; exact q2, by unfold OnT at q3 ⊢; rw [hnn _ (by omega)]; exact q3, by rw [hnn _ (by omega)]; exact w2, k1, by rw [hnn _ (by omega)]; exact k2, by rw [hnn _ (by omega)]; exact k3, fun i hi => ?_⟩
        rw [hold i (by omega)]
        exact w3 i hi
  · exact (a10 t' ht').fr (fun w hw' => hnn _ (by omega)) (fun n j q k g0 g1 g2 g3 g4 g5 g6 g7 g8 => ⟨by unfold OnT at g5 ⊢; rw [hnn _ (by omega)]; exact g5, hnn _ (by omega), hnn _ (by omega), hnn _ (by omega)⟩) (Nat.le_refl _)
