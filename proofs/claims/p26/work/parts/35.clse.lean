/-! agreement but for one slot -/
section AGE
variable {σ ρ : Sr}
theorem Ag.e {A : Nat} (h : Ag ρ σ A) (e : Nat) : AgE ρ σ A e := fun k h1 h2 _ h4 => h k h1 h2 h4
theorem AgE.a {A e : Nat} (h : AgE ρ σ A e) (he : ρ e = σ e) : Ag ρ σ A := fun k h1 h2 h4 => by
  by_cases hk : k = e
  · rw [hk]; exact he
  · exact h k h1 h2 hk h4
theorem AgE.both {A e k : Nat} {x y : Int32} (h : AgE ρ σ A e) (hxy : x = y) : AgE (su ρ k x) (su σ k y) A e := by
  subst hxy
  intro j h1 h2 h3 h4
  by_cases e : j = k
  · subst e; rw [su_s, su_s]
  · rw [su_n e, su_n e]; exact h j h1 h2 h3 h4
theorem AgE.sl {A e k : Nat} {x : Int32} (h : AgE ρ σ A e) (hk : k = 5 ∨ k = e ∨ 161 + 11 * A ≤ k ∨ (161 ≤ k ∧ (k - 161) % 11 = 10)) : AgE (su ρ k x) σ A e := by
  intro j h1 h2 h3 h4
  rw [su_n (by omega)]
  exact h j h1 h2 h3 h4
theorem AgE.sr {A e k : Nat} {x : Int32} (h : AgE ρ σ A e) (hk : k = 5 ∨ k = e ∨ 161 + 11 * A ≤ k ∨ (161 ≤ k ∧ (k - 161) % 11 = 10)) : AgE ρ (su σ k x) A e := by
  intro j h1 h2 h3 h4
  rw [su_n (by omega)]
  exact h j h1 h2 h3 h4
theorem AgE.shfB {A e bs p : Nat} (h : AgE ρ σ A e) : ∀ i, (∀ j, j ≤ p + i → bs + j < 161 + 11 * A ∧ bs + j ≠ 5 ∧ bs + j ≠ e ∧ ¬ (161 ≤ bs + j ∧ (bs + j - 161) % 11 = 10)) → AgE (shf ρ bs p i) (shf σ bs p i) A e
  | 0, _ => h
  | i + 1, hi => by
    have ih := AgE.shfB (bs := bs) (p := p) h i (fun j hj => hi j (by omega))
    obtain ⟨a, b, c, d⟩ := hi (p + i + 1) (by omega)
    unfold shf
    exact ih.both (ih _ (by omega) (by omega) (by omega) (by omega))
theorem AgE.remLB {A e t p : Nat} (h : AgE ρ σ A e) (hn : inN σ t ≤ 4) (hp : p < inN σ t) (ht : t < 4) (he : e < 65) : AgE (remL ρ t p) (remL σ t p) A e := by
  have hin : inN ρ t = inN σ t := by unfold inN; rw [h _ (by omega) (by omega) (by omega) (by omega)]
  unfold remL
  rw [hin]
  have hs := h.shfB (bs := 65 + 24 * t + 20) (p := p) (inN σ t - 1 - p) (fun j hj => by omega)
  exact hs.both (by rw [hs _ (by omega) (by omega) (by omega) (by omega)])
theorem AgE.remRB {A e m : Nat} (h : AgE ρ σ A e) (hn : loN σ m ≤ 6) (h1 : 1 ≤ loN σ m) (hm : m < 4) (he : e < 21) : AgE (remR ρ m) (remR σ m) A e := by
  have hin : loN ρ m = loN σ m := by unfold loN; rw [h _ (by omega) (by omega) (by omega) (by omega)]
  unfold remR
  rw [hin]
  have hs := h.shfB (bs := 21 + 11 * m + 1) (p := 0) (loN σ m - 1) (fun j hj => by omega)
  exact hs.both (by rw [hs _ (by omega) (by omega) (by omega) (by omega)])
end AGE
/-! what the class counts along -/
def ansB3 (σ : Sr) (m q : Nat) : Bool := σ (161 + 11 * q + 0) == nI m && σ (161 + 11 * q + 4) == 3
def ansN (σ : Sr) (m : Nat) : Nat := cnt (ansB3 σ m) (ix (σ 4))
def lonL (σ : Sr) (m : Nat) : Nat → Int32
  | 0 => -5
  | n + 1 => if ansB3 σ m n = true ∧ lonL σ m n < σ (161 + 11 * n + 8) then σ (161 + 11 * n + 8) else lonL σ m n
def Cn (ρ σ : Sr) : Prop := ∀ m, m < 4 → ρ (2361 + m) = nI (holdsN σ m) ∧ ρ (2365 + m) = nI (ansN σ m) ∧ ρ (2369 + m) = lonL σ m (ix (σ 4))
theorem cnt_congr {p q : Nat → Bool} : ∀ n, (∀ k, k < n → p k = q k) → cnt p n = cnt q n
  | 0, _ => rfl
  | n + 1, h => by
    unfold cnt
    rw [cnt_congr n (fun k hk => h k (by omega)), h n (by omega)]
theorem cnt_one {p q : Nat → Bool} {i : Nat} (hp : p i = false) (hq : q i = true) : ∀ n, (∀ k, k < n → k ≠ i → p k = q k) → cnt q n = cnt p n + (if i < n then 1 else 0)
  | 0, _ => by simp [cnt]
  | n + 1, h => by
    have ih := cnt_one hp hq n (fun k hk => h k (by omega))
    unfold cnt
    rw [ih]
    by_cases e : n = i
    · subst e
      rw [hp, hq]
      simp
    · rw [h n (by omega) e]
      by_cases c : i < n
      · rw [if_pos c, if_pos (by omega : i < n + 1)]; omega
      · rw [if_neg c, if_neg (by omega : ¬ i < n + 1)]; omega
theorem lonL_congr {σ τ : Sr} {m : Nat} : ∀ n, (∀ q, q < n → ansB3 τ m q = ansB3 σ m q ∧ (ansB3 σ m q = true → τ (161 + 11 * q + 8) = σ (161 + 11 * q + 8))) → lonL τ m n = lonL σ m n
  | 0, _ => rfl
  | n + 1, h => by
    obtain ⟨a, b⟩ := h n (by omega)
    unfold lonL
    rw [lonL_congr n (fun q hq => h q (by omega)), a]
    by_cases c : ansB3 σ m n = true
    · rw [b c]
    · rw [if_neg (fun z => c z.1), if_neg (fun z => c z.1)]
def mx (a b : Int32) : Int32 := if a < b then b else a
theorem mx_comm (a b c : Int32) : mx (mx a b) c = mx (mx a c) b := by
  unfold mx
  have h1 : ∀ x y : Int32, (x < y) ↔ (x.toInt < y.toInt) := fun x y => Int32.lt_iff_toInt_lt
  have h2 : ∀ x y : Int32, x.toInt = y.toInt → x = y := fun x y h => Int32.toInt_inj.mp h
  by_cases c1 : a < b <;> by_cases c2 : a < c <;> simp only [c1, c2, if_true, if_false] <;> by_cases c3 : b < c <;> by_cases c4 : c < b <;> simp only [c3, c4, if_true, if_false] <;> simp only [h1] at * <;> first
    | rfl
    | omega
    | (apply h2; omega)
theorem lonL_one {σ τ : Sr} {m i : Nat} (h0 : ansB3 σ m i = false) (h1 : ansB3 τ m i = true) : ∀ n, (∀ q, q < n → q ≠ i → ansB3 τ m q = ansB3 σ m q ∧ (ansB3 σ m q = true → τ (161 + 11 * q + 8) = σ (161 + 11 * q + 8))) → lonL τ m n = if i < n then mx (lonL σ m n) (τ (161 + 11 * i + 8)) else lonL σ m n
  | 0, _ => by simp [lonL]
  | n + 1, h => by
    have ih := lonL_one h0 h1 n (fun q hq => h q (by omega))
    by_cases e : n = i
    · subst e
      rw [if_neg (by omega)] at ih
      unfold lonL
      rw [ih, if_pos (by omega : n < n + 1), h0, h1]
      simp only [mx, true_and, Bool.false_eq_true, false_and, if_false]
    · obtain ⟨a, b⟩ := h n (by omega) e
      by_cases c : i < n
      · rw [if_pos c] at ih
        rw [if_pos (by omega : i < n + 1)]
        unfold lonL
        rw [ih, a]
        by_cases d : ansB3 σ m n = true
        · rw [b d]
          simp only [d, true_and]
          exact mx_comm _ _ _
        · simp only [d, Bool.false_eq_true, false_and, if_false]
      · rw [if_neg c] at ih
        rw [if_neg (by omega : ¬ i < n + 1)]
        unfold lonL
        rw [ih, a]
        by_cases d : ansB3 σ m n = true
        · rw [b d]
        · simp only [d, Bool.false_eq_true, false_and, if_false]
theorem ansB3_fr {σ τ : Sr} {m q : Nat} (h0 : τ (161 + 11 * q + 0) = σ (161 + 11 * q + 0)) (h4 : τ (161 + 11 * q + 4) = 3 ↔ σ (161 + 11 * q + 4) = 3) : ansB3 τ m q = ansB3 σ m q := by
  unfold ansB3
  rw [h0]
  congr 1
  by_cases c : σ (161 + 11 * q + 4) = 3
  · rw [c, h4.mpr c]
  · have d : ¬ τ (161 + 11 * q + 4) = 3 := fun z => c (h4.mp z)
    rw [beq_eq_false_iff_ne.mpr c, beq_eq_false_iff_ne.mpr d]
theorem holdsN_fr {σ τ : Sr} {m : Nat} (hS : InvS σ) (h1 : τ 1 = σ 1) (hl : ∀ k, k < 8 → τ (13 + k) = σ (13 + k)) (h0 : ∀ q, q < ix (σ 4) → τ (161 + 11 * q + 0) = σ (161 + 11 * q + 0)) : holdsN τ m = holdsN σ m := by
  obtain ⟨hT, -, h8⟩ := hS.T1
  obtain ⟨T, A, a1, a2, a3, a4, a5, a6, a7, a8, -⟩ := hS
  unfold holdsN
  have : Tg_ τ = Tg_ σ := by unfold Tg_; rw [h1]
  rw [this]
  refine cnt_congr _ (fun k hk => ?_)
  unfold heldBy
  rw [hl k (by omega)]
  rcases a8 k (by omega) with e | ⟨-, q, hq, e⟩
  · rw [e]; rfl
  · rw [e, ix_nI (by omega), h0 q (by rw [ix_eq a4 (by omega)]; exact hq)]
theorem Cn.fr {ρ σ ρ' τ : Sr} (h : Cn ρ σ) (hS : InvS σ) (hx : ∀ k, 2361 ≤ k → ρ' k = ρ k) (h1 : τ 1 = σ 1) (h4 : τ 4 = σ 4) (hl : ∀ k, k < 8 → τ (13 + k) = σ (13 + k)) (h0 : ∀ q, q < ix (σ 4) → τ (161 + 11 * q + 0) = σ (161 + 11 * q + 0)) (h3 : ∀ q, q < ix (σ 4) → (τ (161 + 11 * q + 4) = 3 ↔ σ (161 + 11 * q + 4) = 3)) (h8 : ∀ q, q < ix (σ 4) → τ (161 + 11 * q + 8) = σ (161 + 11 * q + 8)) : Cn ρ' τ := by
  intro m hm
  obtain ⟨a, b, c⟩ := h m hm
  rw [hx _ (by omega), hx _ (by omega), hx _ (by omega), a, b, c, holdsN_fr hS h1 hl h0]
  unfold ansN
  rw [h4]
  have hb : ∀ q, q < ix (σ 4) → ansB3 τ m q = ansB3 σ m q := fun q hq => ansB3_fr (h0 q hq) (h3 q hq)
  rw [cnt_congr _ hb, lonL_congr _ (fun q hq => ⟨hb q hq, fun _ => h8 q hq⟩)]
  exact ⟨rfl, rfl, rfl⟩
