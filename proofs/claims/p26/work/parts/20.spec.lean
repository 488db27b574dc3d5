/-! THE STATE AS ONE ROW OF NUMBERS: what a tick does, as functions -/
abbrev Sr : Type := Nat → Int32
def su (σ : Sr) (k : Nat) (x : Int32) : Sr := fun j => if j = k then x else σ j
theorem su_s (σ : Sr) (k : Nat) (x : Int32) : su σ k x k = x := by simp [su]
theorem su_n {σ : Sr} {k j : Nat} {x : Int32} (h : j ≠ k) : su σ k x j = σ j := by simp [su, h]
def stS (I : MI) (r : Nat) (σ : Sr) : MI := fun a k => if a = r + 1 then σ k else I a k
theorem stS_s {I : MI} {r : Nat} {σ : Sr} {k : Nat} : stS I r σ (r + 1) k = σ k := by simp [stS]
theorem stS_o {I : MI} {r a : Nat} {σ : Sr} {k : Nat} (h : a ≠ r + 1) : stS I r σ a k = I a k := by simp [stS, h]
theorem up_s {I : MI} {r : Nat} {σ : Sr} {k : Nat} {x : Int32} : upI (stS I r σ) (r + 1) k x = stS I r (su σ k x) := by
  funext a j
  by_cases h : a = r + 1
  · subst h
    by_cases hj : j = k <;> simp [upI, stS, su, hj]
  · simp [upI, stS, h]
theorem up_o {I : MI} {r a : Nat} {σ : Sr} {k : Nat} {x : Int32} (h : a ≠ r + 1) : upI (stS I r σ) a k x = stS (upI I a k x) r σ := by
  funext c j
  by_cases hc : c = r + 1
  · subst hc
    simp [upI, stS, Ne.symm h]
  · by_cases h2 : c = a ∧ j = k <;> simp [upI, stS, hc, h2, h]
theorem stS_self (I : MI) (r : Nat) : stS I r (I (r + 1)) = I := by
  funext a k
  by_cases h : a = r + 1
  · subst h; simp [stS]
  · simp [stS, h]
theorem stS_stS (I : MI) (r : Nat) (σ τ : Sr) : stS (stS I r σ) r τ = stS I r τ := by
  funext a k
  by_cases h : a = r + 1 <;> simp [stS, h]
theorem ix_nI {k : Nat} (h : k < 2 ^ 31) : ix (nI k) = k := nI_clamp h
theorem vpT {k n : Nat} (h : k < n) (hn : n < 2 ^ 31) : vp_in (nI k) n = True := eq_true (vp_in_nI h hn)
theorem lit_nI (w : Nat) : (OfNat.ofNat w : Int32) = nI w := rfl
theorem nI_addl (w k : Nat) : (OfNat.ofNat w : Int32) + nI k = nI (w + k) := nI_add w k
theorem nI_addr (w k : Nat) : nI k + (OfNat.ofNat w : Int32) = nI (k + w) := nI_add k w
theorem nI_leI' {a b : Nat} (ha : a < 2 ^ 31) (hb : b < 2 ^ 31) : (nI a ≤ nI b) = (a ≤ b) := propext (nI_leI ha hb)
theorem nI_ltI' {a b : Nat} (ha : a < 2 ^ 31) (hb : b < 2 ^ 31) : (nI a < nI b) = (a < b) := propext (nI_ltI ha hb)
theorem nI_eqI' {a b : Nat} (ha : a < 2 ^ 31) (hb : b < 2 ^ 31) : (nI a = nI b) = (a = b) := propext (nI_eq ha hb)
theorem nI_ne5 {k : Nat} (h : k < 2 ^ 31) : nI k ≠ -5 := by
  intro e
  have h1 := nI_toInt h
  rw [e] at h1
  have : (-5 : Int32).toInt = -5 := by decide
  omega
theorem nI_mod4 {k : Nat} (h : k < 2 ^ 31) : nI k - nI k / (4 : Int32) * (4 : Int32) = nI (k % 4) := pk_rem h (by decide) (by decide)
theorem nl_1 (k : Nat) : (1 : Int32) + nI k = nI (1 + k) := nI_add 1 k
theorem nl_8 (k : Nat) : (8 : Int32) + nI k = nI (8 + k) := nI_add 8 k
theorem nl_13 (k : Nat) : (13 : Int32) + nI k = nI (13 + k) := nI_add 13 k
theorem nl_16 (k : Nat) : (16 : Int32) + nI k = nI (16 + k) := nI_add 16 k
theorem nl_20 (k : Nat) : (20 : Int32) + nI k = nI (20 + k) := nI_add 20 k
theorem nl_2361 (k : Nat) : (2361 : Int32) + nI k = nI (2361 + k) := nI_add 2361 k
theorem nr_1 (k : Nat) : nI k + (1 : Int32) = nI (k + 1) := nI_add k 1
theorem ll_0 {k : Nat} (h : k < 2 ^ 31) : ((0 : Int32) ≤ nI k) = (0 ≤ k) := nI_leI' (a := 0) (by decide) h
theorem lr_0 {k : Nat} (h : k < 2 ^ 31) : (nI k ≤ (0 : Int32)) = (k ≤ 0) := nI_leI' (b := 0) h (by decide)
theorem el_0 {k : Nat} (h : k < 2 ^ 31) : (nI k = (0 : Int32)) = (k = 0) := nI_eqI' (b := 0) h (by decide)
theorem ll_1 {k : Nat} (h : k < 2 ^ 31) : ((1 : Int32) ≤ nI k) = (1 ≤ k) := nI_leI' (a := 1) (by decide) h
theorem lr_1 {k : Nat} (h : k < 2 ^ 31) : (nI k ≤ (1 : Int32)) = (k ≤ 1) := nI_leI' (b := 1) h (by decide)
theorem el_1 {k : Nat} (h : k < 2 ^ 31) : (nI k = (1 : Int32)) = (k = 1) := nI_eqI' (b := 1) h (by decide)
theorem ll_2 {k : Nat} (h : k < 2 ^ 31) : ((2 : Int32) ≤ nI k) = (2 ≤ k) := nI_leI' (a := 2) (by decide) h
theorem lr_2 {k : Nat} (h : k < 2 ^ 31) : (nI k ≤ (2 : Int32)) = (k ≤ 2) := nI_leI' (b := 2) h (by decide)
theorem el_2 {k : Nat} (h : k < 2 ^ 31) : (nI k = (2 : Int32)) = (k = 2) := nI_eqI' (b := 2) h (by decide)
theorem ll_3 {k : Nat} (h : k < 2 ^ 31) : ((3 : Int32) ≤ nI k) = (3 ≤ k) := nI_leI' (a := 3) (by decide) h
theorem lr_3 {k : Nat} (h : k < 2 ^ 31) : (nI k ≤ (3 : Int32)) = (k ≤ 3) := nI_leI' (b := 3) h (by decide)
theorem el_3 {k : Nat} (h : k < 2 ^ 31) : (nI k = (3 : Int32)) = (k = 3) := nI_eqI' (b := 3) h (by decide)
theorem ll_4 {k : Nat} (h : k < 2 ^ 31) : ((4 : Int32) ≤ nI k) = (4 ≤ k) := nI_leI' (a := 4) (by decide) h
theorem lr_4 {k : Nat} (h : k < 2 ^ 31) : (nI k ≤ (4 : Int32)) = (k ≤ 4) := nI_leI' (b := 4) h (by decide)
theorem el_4 {k : Nat} (h : k < 2 ^ 31) : (nI k = (4 : Int32)) = (k = 4) := nI_eqI' (b := 4) h (by decide)
theorem ll_6 {k : Nat} (h : k < 2 ^ 31) : ((6 : Int32) ≤ nI k) = (6 ≤ k) := nI_leI' (a := 6) (by decide) h
theorem lr_6 {k : Nat} (h : k < 2 ^ 31) : (nI k ≤ (6 : Int32)) = (k ≤ 6) := nI_leI' (b := 6) h (by decide)
theorem el_6 {k : Nat} (h : k < 2 ^ 31) : (nI k = (6 : Int32)) = (k = 6) := nI_eqI' (b := 6) h (by decide)
theorem ll_8 {k : Nat} (h : k < 2 ^ 31) : ((8 : Int32) ≤ nI k) = (8 ≤ k) := nI_leI' (a := 8) (by decide) h
theorem lr_8 {k : Nat} (h : k < 2 ^ 31) : (nI k ≤ (8 : Int32)) = (k ≤ 8) := nI_leI' (b := 8) h (by decide)
theorem el_8 {k : Nat} (h : k < 2 ^ 31) : (nI k = (8 : Int32)) = (k = 8) := nI_eqI' (b := 8) h (by decide)
theorem ll_10 {k : Nat} (h : k < 2 ^ 31) : ((10 : Int32) ≤ nI k) = (10 ≤ k) := nI_leI' (a := 10) (by decide) h
theorem lr_10 {k : Nat} (h : k < 2 ^ 31) : (nI k ≤ (10 : Int32)) = (k ≤ 10) := nI_leI' (b := 10) h (by decide)
theorem el_10 {k : Nat} (h : k < 2 ^ 31) : (nI k = (10 : Int32)) = (k = 10) := nI_eqI' (b := 10) h (by decide)
theorem ll_60 {k : Nat} (h : k < 2 ^ 31) : ((60 : Int32) ≤ nI k) = (60 ≤ k) := nI_leI' (a := 60) (by decide) h
theorem lr_60 {k : Nat} (h : k < 2 ^ 31) : (nI k ≤ (60 : Int32)) = (k ≤ 60) := nI_leI' (b := 60) h (by decide)
theorem el_60 {k : Nat} (h : k < 2 ^ 31) : (nI k = (60 : Int32)) = (k = 60) := nI_eqI' (b := 60) h (by decide)
theorem ll_200 {k : Nat} (h : k < 2 ^ 31) : ((200 : Int32) ≤ nI k) = (200 ≤ k) := nI_leI' (a := 200) (by decide) h
theorem lr_200 {k : Nat} (h : k < 2 ^ 31) : (nI k ≤ (200 : Int32)) = (k ≤ 200) := nI_leI' (b := 200) h (by decide)
theorem el_200 {k : Nat} (h : k < 2 ^ 31) : (nI k = (200 : Int32)) = (k = 200) := nI_eqI' (b := 200) h (by decide)
theorem ll_999 {k : Nat} (h : k < 2 ^ 31) : ((999 : Int32) ≤ nI k) = (999 ≤ k) := nI_leI' (a := 999) (by decide) h
theorem lr_999 {k : Nat} (h : k < 2 ^ 31) : (nI k ≤ (999 : Int32)) = (k ≤ 999) := nI_leI' (b := 999) h (by decide)
theorem el_999 {k : Nat} (h : k < 2 ^ 31) : (nI k = (999 : Int32)) = (k = 999) := nI_eqI' (b := 999) h (by decide)
theorem ll_2361 {k : Nat} (h : k < 2 ^ 31) : ((2361 : Int32) ≤ nI k) = (2361 ≤ k) := nI_leI' (a := 2361) (by decide) h
theorem lr_2361 {k : Nat} (h : k < 2 ^ 31) : (nI k ≤ (2361 : Int32)) = (k ≤ 2361) := nI_leI' (b := 2361) h (by decide)
theorem el_2361 {k : Nat} (h : k < 2 ^ 31) : (nI k = (2361 : Int32)) = (k = 2361) := nI_eqI' (b := 2361) h (by decide)
theorem ll_7083 {k : Nat} (h : k < 2 ^ 31) : ((7083 : Int32) ≤ nI k) = (7083 ≤ k) := nI_leI' (a := 7083) (by decide) h
theorem lr_7083 {k : Nat} (h : k < 2 ^ 31) : (nI k ≤ (7083 : Int32)) = (k ≤ 7083) := nI_leI' (b := 7083) h (by decide)
theorem el_7083 {k : Nat} (h : k < 2 ^ 31) : (nI k = (7083 : Int32)) = (k = 7083) := nI_eqI' (b := 7083) h (by decide)
theorem le_nI {x : Int32} {n : Nat} (h0 : (0 : Int32) ≤ x) (h1 : x ≤ nI n) (hn : n < 2 ^ 31) : ∃ j : Nat, j ≤ n ∧ x = nI j := nI_of2 (nI_toInt hn) (Int32.not_lt.mpr h0) h1
/-! the functions -/
def Tg_ (σ : Sr) : Nat := ix (σ 1)
def Aq (σ : Sr) : Nat := ix (σ 4)
def mS (m w : Nat) : Nat := 21 + 11 * m + w
def tS (t w : Nat) : Nat := 65 + 24 * t + w
def qS (q w : Nat) : Nat := 161 + 11 * q + w
def freeO (σ : Sr) : Option Nat := (List.range (Tg_ σ)).find? (fun k => σ (13 + k) == -5)
def oI (o : Option Nat) : Int32 := match o with
  | none => -5
  | some k => nI k
def cnt (p : Nat → Bool) : Nat → Nat
  | 0 => 0
  | n + 1 => cnt p n + (if p n = true then 1 else 0)
def heldBy (σ : Sr) (m : Nat) (k : Nat) : Bool := σ (13 + k) != -5 && σ (161 + 11 * ix (σ (13 + k)) + 0) == nI m
def holdsN (σ : Sr) (m : Nat) : Nat := cnt (heldBy σ m) (Tg_ σ)
/-- what is to hold of a row of numbers -/
def InvT (σ : Sr) : Prop := ∃ T : Nat, σ 1 = nI T ∧ 1 ≤ T ∧ T ≤ 8
def InvA (σ : Sr) : Prop := ∃ A : Nat, σ 4 = nI A ∧ A ≤ 200
theorem find_none {p : Nat → Bool} {n : Nat} (h : ∀ j, j < n → p j = false) : (List.range n).find? p = none := by
  rw [List.find?_eq_none]
  intro x hx
  rw [h x (List.mem_range.mp hx)]
  decide
theorem find_some {p : Nat → Bool} {n k : Nat} (hk : k < n) (hp : p k = true) (h : ∀ j, j < k → p j = false) : (List.range n).find? p = some k := by
  rw [List.find?_range_eq_some]
  exact ⟨hp, List.mem_range.mpr hk, fun j hj => by rw [h j hj]; rfl⟩
section REF
variable {K : MK} {R : MR} {I : MI} {r : Nat} {σ : Sr}
end REF
