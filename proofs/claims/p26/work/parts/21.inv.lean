/-! what is to hold of a row of numbers, and what keeps it -/
def OnT (σ : Sr) (q : Nat) : Prop := σ (161 + 11 * q + 4) = 1 ∨ σ (161 + 11 * q + 4) = 2
def LentOK (σ : Sr) (T A k : Nat) : Prop := σ (13 + k) = -5 ∨ (k < T ∧ ∃ q, q < A ∧ σ (13 + k) = nI q)
def RowOK (σ : Sr) (A m : Nat) : Prop := ∃ L : Nat, L ≤ 6 ∧ σ (21 + 11 * m + 0) = nI L ∧ ∀ j, j < L → ∃ q, q < A ∧ σ (21 + 11 * m + 1 + j) = nI q ∧ σ (161 + 11 * q + 4) = 0 ∧ σ (161 + 11 * q + 0) = nI m ∧ ∀ i, i < j → σ (21 + 11 * m + 1 + i) ≠ nI q
def LstOK (σ : Sr) (A t : Nat) : Prop := ∃ n rm : Nat, n ≤ 4 ∧ σ (65 + 24 * t + 19) = nI n ∧ 1 ≤ rm ∧ rm ≤ 4 ∧ σ (65 + 24 * t + 16) = nI rm ∧ ∀ j, j < n → ∃ q k, q < A ∧ σ (65 + 24 * t + 20 + j) = nI q ∧ OnT σ q ∧ σ (161 + 11 * q + 1) = nI t ∧ k < 8 ∧ σ (161 + 11 * q + 5) = nI k ∧ σ (13 + k) = nI q ∧ ∀ i, i < j → σ (65 + 24 * t + 20 + i) ≠ nI q
def QOK (σ : Sr) (q : Nat) : Prop := (∃ m, m < 4 ∧ σ (161 + 11 * q + 0) = nI m) ∧ (∃ t, t < 4 ∧ σ (161 + 11 * q + 1) = nI t) ∧ ∃ a, a < 16 ∧ σ (161 + 11 * q + 2) = nI a
def InvS (σ : Sr) : Prop := ∃ T A : Nat, σ 1 = nI T ∧ 1 ≤ T ∧ T ≤ 8 ∧ σ 4 = nI A ∧ A ≤ 200 ∧ (∃ t, t < 4 ∧ σ 6 = nI t) ∧ (∃ m, m < 4 ∧ σ 7 = nI m) ∧ (∀ k, k < 8 → LentOK σ T A k) ∧ (∀ m, m < 4 → RowOK σ A m) ∧ (∀ t, t < 4 → LstOK σ A t) ∧ ∀ q, q < A → QOK σ q
theorem RowOK.fr {σ τ : Sr} {A B m : Nat} (h : RowOK σ A m) (h1 : ∀ w, w < 7 → τ (21 + 11 * m + w) = σ (21 + 11 * m + w)) (h2 : ∀ L j q, L ≤ 6 → σ (21 + 11 * m + 0) = nI L → j < L → q < A → σ (21 + 11 * m + 1 + j) = nI q → σ (161 + 11 * q + 4) = 0 → τ (161 + 11 * q + 4) = 0 ∧ τ (161 + 11 * q + 0) = σ (161 + 11 * q + 0)) (hA : A ≤ B) : RowOK τ B m := by
  obtain ⟨L, hL, e, hj⟩ := h
  refine ⟨L, hL, by rw [h1 0 (by omega)]; exact e, fun j hjL => ?_⟩
  obtain ⟨q, hq, e1, e2, e3, e4⟩ := hj j hjL
  obtain ⟨g1, g2⟩ := h2 L j q hL e hjL hq e1 e2
  refine ⟨q, by omega, ?_, g1, by rw [g2]; exact e3, fun i hi => ?_⟩
  · have := h1 (1 + j) (by omega)
    rw [show 21 + 11 * m + (1 + j) = 21 + 11 * m + 1 + j by omega] at this
    rw [this]; exact e1
  · have := h1 (1 + i) (by omega)
    rw [show 21 + 11 * m + (1 + i) = 21 + 11 * m + 1 + i by omega] at this
    rw [this]; exact e4 i hi
theorem LstOK.fr {σ τ : Sr} {A B t : Nat} (h : LstOK σ A t) (h1 : ∀ w, w = 16 ∨ (19 ≤ w ∧ w < 24) → τ (65 + 24 * t + w) = σ (65 + 24 * t + w)) (h2 : ∀ n j q k, n ≤ 4 → σ (65 + 24 * t + 19) = nI n → j < n → q < A → σ (65 + 24 * t + 20 + j) = nI q → OnT σ q → k < 8 → σ (161 + 11 * q + 5) = nI k → σ (13 + k) = nI q → OnT τ q ∧ τ (161 + 11 * q + 1) = σ (161 + 11 * q + 1) ∧ τ (161 + 11 * q + 5) = σ (161 + 11 * q + 5) ∧ τ (13 + k) = σ (13 + k)) (hA : A ≤ B) : LstOK τ B t := by
  obtain ⟨n, rm, hn, e, r1, r2, r3, hj⟩ := h
  refine ⟨n, rm, hn, by rw [h1 19 (by omega)]; exact e, r1, r2, by rw [h1 16 (by omega)]; exact r3, fun j hjL => ?_⟩
  obtain ⟨q, k, hq, e1, e2, e3, e4, e5, e6, e7⟩ := hj j hjL
  obtain ⟨g1, g2, g3, g4⟩ := h2 n j q k hn e hjL hq e1 e2 e4 e5 e6
  refine ⟨q, k, by omega, ?_, g1, by rw [g2]; exact e3, e4, by rw [g3]; exact e5, by rw [g4]; exact e6, fun i hi => ?_⟩
  · have := h1 (20 + j) (by omega)
    rw [show 65 + 24 * t + (20 + j) = 65 + 24 * t + 20 + j by omega] at this
    rw [this]; exact e1
  · have := h1 (20 + i) (by omega)
    rw [show 65 + 24 * t + (20 + i) = 65 + 24 * t + 20 + i by omega] at this
    rw [this]; exact e7 i hi
theorem QOK.fr {σ τ : Sr} {q : Nat} (h : QOK σ q) (h1 : ∀ w, w < 3 → τ (161 + 11 * q + w) = σ (161 + 11 * q + w)) : QOK τ q := by
  obtain ⟨⟨m, a, b⟩, ⟨t, c, d⟩, x, e, f⟩ := h
  exact ⟨⟨m, a, by rw [h1 0 (by omega)]; exact b⟩, ⟨t, c, by rw [h1 1 (by omega)]; exact d⟩, x, e, by rw [h1 2 (by omega)]; exact f⟩
theorem LentOK.fr {σ τ : Sr} {T A B k : Nat} (h : LentOK σ T A k) (h1 : τ (13 + k) = σ (13 + k)) (hA : A ≤ B) : LentOK τ T B k := by
  rcases h with h | ⟨a, q, b, c⟩
  · exact Or.inl (h1.trans h)
  · exact Or.inr ⟨a, q, by omega, h1.trans c⟩
/-- the slots of which the invariant speaks, but the places where questions are -/
def isStr (k : Nat) : Prop := k = 1 ∨ k = 4 ∨ k = 6 ∨ k = 7 ∨ (13 ≤ k ∧ k < 21) ∨ (21 ≤ k ∧ k < 65 ∧ (k - 21) % 11 < 7) ∨ (65 ≤ k ∧ k < 161 ∧ ((k - 65) % 24 = 16 ∨ 19 ≤ (k - 65) % 24)) ∨ (161 ≤ k ∧ ((k - 161) % 11 < 3 ∨ (k - 161) % 11 = 5))
theorem InvS.fr {σ τ : Sr} (h : InvS σ) (hs : ∀ k, isStr k → τ k = σ k) (hw : ∀ q, τ (161 + 11 * q + 4) = σ (161 + 11 * q + 4) ∨ (σ (161 + 11 * q + 4) = 1 ∧ τ (161 + 11 * q + 4) = 2)) : InvS τ := by
  obtain ⟨T, A, a1, a2, a3, a4, a5, a6, a7, a8, a9, a10, a11⟩ := h
  refine ⟨T, A, by rw [hs 1 (by simp [isStr])]; exact a1, a2, a3, by rw [hs 4 (by simp [isStr])]; exact a4, a5, by rw [hs 6 (by simp [isStr])]; exact a6, by rw [hs 7 (by simp [isStr])]; exact a7, fun k hk => (a8 k hk).fr (hs _ (by unfold isStr; omega)) (Nat.le_refl _), fun m hm => (a9 m hm).fr (fun w hw' => hs _ (by unfold isStr; omega)) (fun L j q g0 g1 g2 g3 g4 g5 => ?_) (Nat.le_refl _), fun t ht => (a10 t ht).fr (fun w hw' => hs _ (by unfold isStr; omega)) (fun n j q k g0 g1 g2 g3 g4 g5 g6 g7 g8 => ?_) (Nat.le_refl _), fun q hq => (a11 q hq).fr (fun w hw' => hs _ (by unfold isStr; omega))⟩
  · refine ⟨?_, hs _ (by unfold isStr; omega)⟩
    rcases hw q with e | ⟨e, -⟩
    · rw [e]; exact g5
    · rw [g5] at e; exact absurd e (by decide)
  · refine ⟨?_, hs _ (by unfold isStr; omega), hs _ (by unfold isStr; omega), hs _ (by unfold isStr; omega)⟩
    unfold OnT at g5 ⊢
    rcases hw q with e | ⟨-, e⟩
    · rw [e]; exact g5
    · exact Or.inr e
theorem InvS.T {σ : Sr} (h : InvS σ) : InvT σ := by
  obtain ⟨T, A, a1, a2, a3, -⟩ := h
  exact ⟨T, a1, a2, a3⟩
theorem InvS.A {σ : Sr} (h : InvS σ) : InvA σ := by
  obtain ⟨T, A, a1, a2, a3, a4, a5, -⟩ := h
  exact ⟨A, a4, a5⟩
theorem nI_inj {a b : Nat} (ha : a < 2 ^ 31) (hb : b < 2 ^ 31) (h : nI a = nI b) : a = b := (nI_eq ha hb).mp h
theorem ix_eq {x : Int32} {k : Nat} (h : x = nI k) (hk : k < 2 ^ 31) : ix x = k := by rw [h, ix_nI hk]
/-- of a target: how many are in it, and which question stands at a place -/
def inN (σ : Sr) (t : Nat) : Nat := ix (σ (65 + 24 * t + 19))
def lsq (σ : Sr) (t j : Nat) : Nat := ix (σ (65 + 24 * t + 20 + j))
def loN (σ : Sr) (m : Nat) : Nat := ix (σ (21 + 11 * m + 0))
def rwq (σ : Sr) (m j : Nat) : Nat := ix (σ (21 + 11 * m + 1 + j))
theorem InvS.lists {σ : Sr} (h : InvS σ) {t : Nat} (ht : t < 4) : inN σ t ≤ 4 ∧ σ (65 + 24 * t + 19) = nI (inN σ t) ∧ ∀ j, j < inN σ t → lsq σ t j < 200 ∧ σ (65 + 24 * t + 20 + j) = nI (lsq σ t j) ∧ OnT σ (lsq σ t j) ∧ (∃ a, a < 16 ∧ σ (161 + 11 * lsq σ t j + 2) = nI a) ∧ (∃ k, k < 8 ∧ σ (161 + 11 * lsq σ t j + 5) = nI k ∧ σ (13 + k) = nI (lsq σ t j)) := by
  obtain ⟨T, A, a1, a2, a3, a4, a5, a6, a7, a8, a9, a10, a11⟩ := h
  obtain ⟨n, rm, hn, e, r1, r2, r3, hj⟩ := a10 t ht
  have en : inN σ t = n := ix_eq e (by omega)
  refine ⟨by omega, by rw [en]; exact e, fun j hjn => ?_⟩
  obtain ⟨q, k, hq, e1, e2, e3, e4, e5, e6, e7⟩ := hj j (by omega)
  have eq : lsq σ t j = q := ix_eq e1 (by omega)
  rw [eq]
  exact ⟨by omega, e1, e2, (a11 q hq).2.2, k, e4, e5, e6⟩
