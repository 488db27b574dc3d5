/-! WHAT ALWAYS HOLDS OF A ROW OF NUMBERS, beside InvS: counts, tags, rows that rise -/
def isW (σ : Sr) (v : Int32) (q : Nat) : Bool := σ (161 + 11 * q + 4) == v
def onB (σ : Sr) (q : Nat) : Bool := σ (161 + 11 * q + 4) == 1 || σ (161 + 11 * q + 4) == 2
def leB (σ : Sr) (k : Nat) : Bool := σ (13 + k) != -5
def suI (f : Nat → Int32) : Nat → Int32
  | 0 => 0
  | n + 1 => suI f n + f n
def sum4 (f : Nat → Nat) : Nat := f 0 + f 1 + f 2 + f 3
def isV (k : Nat) : Prop := k = 1 ∨ k = 2 ∨ k = 3 ∨ (21 ≤ k ∧ k < 65 ∧ (k - 21) % 11 = 7) ∨ (65 ≤ k ∧ k < 161 ∧ (k - 65) % 24 < 19) ∨ (161 ≤ k ∧ (k - 161) % 11 = 3)
def Ge5 (σ : Sr) : Prop := ∀ k, isV k → (-5 : Int32) ≤ σ k
def TgC (σ : Sr) : Prop := ∀ k, k < 8 → σ (13 + k) ≠ -5 → ∃ q, q < ix (σ 4) ∧ σ (13 + k) = nI q ∧ σ (161 + 11 * q + 5) = nI k ∧ OnT σ q
def Ris (σ : Sr) : Prop := ∀ m, m < 4 → ∀ j, j + 1 < loN σ m → rwq σ m j < rwq σ m (j + 1)
def JJ (σ : Sr) : Prop := Ge5 σ ∧ TgC σ ∧ Ris σ ∧ cnt (leB σ) 8 = sum4 (inN σ) ∧ sum4 (loN σ) = cnt (isW σ 0) (ix (σ 4)) ∧ σ 8 = nI (cnt (isW σ 3) (ix (σ 4))) ∧ σ 9 = σ 8 + nI (cnt (onB σ) (ix (σ 4))) ∧ σ 10 = suI (fun q => σ (161 + 11 * q + 9)) (ix (σ 4))
def isJ (k : Nat) : Prop := k = 4 ∨ k = 8 ∨ k = 9 ∨ k = 10 ∨ (13 ≤ k ∧ k < 21) ∨ (21 ≤ k ∧ k < 65 ∧ (k - 21) % 11 < 7) ∨ (65 ≤ k ∧ k < 161 ∧ (k - 65) % 24 = 19) ∨ (161 ≤ k ∧ ((k - 161) % 11 = 5 ∨ (k - 161) % 11 = 9))
theorem suI_congr {f g : Nat → Int32} : ∀ n, (∀ k, k < n → f k = g k) → suI f n = suI g n
  | 0, _ => rfl
  | n + 1, h => by
    unfold suI
    rw [suI_congr n (fun k hk => h k (by omega)), h n (by omega)]
theorem suI_one {f g : Nat → Int32} {i : Nat} (hi : g i = f i + 1) : ∀ n, (∀ k, k < n → k ≠ i → f k = g k) → suI g n = suI f n + (if i < n then 1 else 0)
  | 0, _ => by rw [if_neg (by omega), i32_add0]; rfl
  | n + 1, h => by
    have ih := suI_one hi n (fun k hk => h k (by omega))
    unfold suI
    rw [ih]
    by_cases e : n = i
    · subst e
      rw [hi, if_neg (by omega), if_pos (by omega), i32_add0, Int32.add_assoc]
    · rw [← h n (by omega) e]
      by_cases c : i < n
      · rw [if_pos c, if_pos (by omega), Int32.add_assoc, Int32.add_comm 1, ← Int32.add_assoc]
      · rw [if_neg c, if_neg (by omega), i32_add0, i32_add0]
theorem sum4_one {f g : Nat → Nat} {t : Nat} (ht : t < 4) (h : g t = f t + 1) (ho : ∀ j, j < 4 → j ≠ t → g j = f j) : sum4 g = sum4 f + 1 := by
  unfold sum4
  have hc : t = 0 ∨ t = 1 ∨ t = 2 ∨ t = 3 := by omega
  rcases hc with rfl | rfl | rfl | rfl
  · have a := ho 1 (by omega) (by omega)
    have b := ho 2 (by omega) (by omega)
    have c := ho 3 (by omega) (by omega)
    omega
  · have a := ho 0 (by omega) (by omega)
    have b := ho 2 (by omega) (by omega)
    have c := ho 3 (by omega) (by omega)
    omega
  · have a := ho 0 (by omega) (by omega)
    have b := ho 1 (by omega) (by omega)
    have c := ho 3 (by omega) (by omega)
    omega
  · have a := ho 0 (by omega) (by omega)
    have b := ho 1 (by omega) (by omega)
    have c := ho 2 (by omega) (by omega)
    omega
theorem sum4_eq {f g : Nat → Nat} (h : ∀ j, j < 4 → g j = f j) : sum4 g = sum4 f := by
  unfold sum4
  rw [h 0 (by omega), h 1 (by omega), h 2 (by omega), h 3 (by omega)]
theorem loN_of {σ τ : Sr} {m : Nat} (h : τ (21 + 11 * m + 0) = σ (21 + 11 * m + 0)) : loN τ m = loN σ m := by unfold loN; rw [h]
theorem inN_of {σ τ : Sr} {t : Nat} (h : τ (65 + 24 * t + 19) = σ (65 + 24 * t + 19)) : inN τ t = inN σ t := by unfold inN; rw [h]
theorem rwq_of {σ τ : Sr} {m j k : Nat} (h : τ (21 + 11 * m + 1 + j) = σ (21 + 11 * m + 1 + k)) : rwq τ m j = rwq σ m k := by unfold rwq; rw [h]
theorem JJ.fr {σ τ : Sr} (h : JJ σ) (hS : InvS σ) (hs : ∀ k, isJ k → τ k = σ k) (hv : Ge5 τ) (hw : ∀ q, τ (161 + 11 * q + 4) = σ (161 + 11 * q + 4) ∨ (σ (161 + 11 * q + 4) = 1 ∧ τ (161 + 11 * q + 4) = 2)) : JJ τ := by
  obtain ⟨g1, g2, g3, c1, c2, c3, c4, c5⟩ := h
  have e4 : τ 4 = σ 4 := hs 4 (by unfold isJ; omega)
  have e8 : τ 8 = σ 8 := hs 8 (by unfold isJ; omega)
  have e9 : τ 9 = σ 9 := hs 9 (by unfold isJ; omega)
  have e10 : τ 10 = σ 10 := hs 10 (by unfold isJ; omega)
  have hw0 : ∀ q, isW τ 0 q = isW σ 0 q := fun q => by
    unfold isW
    rcases hw q with e | ⟨e1, e2⟩
    · rw [e]
    · rw [e1, e2]; decide
  have hw3 : ∀ q, isW τ 3 q = isW σ 3 q := fun q => by
    unfold isW
    rcases hw q with e | ⟨e1, e2⟩
    · rw [e]
    · rw [e1, e2]; decide
  have hon : ∀ q, onB τ q = onB σ q := fun q => by
    unfold onB
    rcases hw q with e | ⟨e1, e2⟩
    · rw [e]
    · rw [e1, e2]; decide
  have hlo : ∀ m, m < 4 → loN τ m = loN σ m := fun m hm => loN_of (hs _ (by unfold isJ; omega))
  have hin : ∀ t, t < 4 → inN τ t = inN σ t := fun t ht => inN_of (hs _ (by unfold isJ; omega))
  rw [← e4] at c2 c3 c4 c5
  refine ⟨hv, fun k hk hne => ?_, fun m hm j hj => ?_, ?_, ?_, ?_, ?_, ?_⟩
  · have ek : τ (13 + k) = σ (13 + k) := hs _ (by unfold isJ; omega)
    rw [ek] at hne ⊢
    obtain ⟨q, q1, q2, q3, q4⟩ := g2 k hk hne
    refine ⟨q, by rw [e4]; exact q1, q2, by rw [hs _ (by unfold isJ; omega)]; exact q3, ?_⟩
    unfold OnT at q4 ⊢
    rcases hw q with e | ⟨-, e⟩
    · rw [e]; exact q4
    · exact Or.inr e
  · have hr6 := (hS.rows hm).1
    rw [hlo m hm] at hj
    have := g3 m hm j hj
    rw [rwq_of (σ := σ) (k := j) (hs _ (by unfold isJ; omega)), rwq_of (σ := σ) (k := j + 1) (hs _ (by unfold isJ; omega))]
    exact this
  · rw [sum4_eq hin, ← c1]
    exact cnt_congr 8 (fun k hk => by unfold leB; rw [hs _ (by unfold isJ; omega)])
  · rw [sum4_eq hlo, c2]
    exact cnt_congr _ (fun k hk => (hw0 k).symm)
  · rw [e8, c3, cnt_congr _ (fun k hk => hw3 k)]
  · rw [e9, e8, c4, cnt_congr _ (fun k hk => hon k)]
  · rw [e10, c5]
    exact suI_congr _ (fun k hk => (hs _ (by unfold isJ; omega)).symm)
theorem Ge5.fr {σ τ : Sr} (h : Ge5 σ) (hs : ∀ k, isV k → τ k = σ k) : Ge5 τ := fun k hk => by rw [hs k hk]; exact h k hk
/-- a slot of the settings -/
theorem JJ.su {σ : Sr} (h : JJ σ) (hS : InvS σ) {k : Nat} {x : Int32} (hk : k < 161) (hj : ¬ isJ k) (hx : -5 ≤ x) : JJ (su σ k x) := by
  refine h.fr hS (fun j hj2 => su_n (fun e => hj (e ▸ hj2))) (fun j hj2 => ?_) (fun q => Or.inl (su_n (by omega)))
  by_cases e : j = k
  · subst e; rw [su_s]; exact hx
  · rw [su_n e]; exact h.1 j hj2
