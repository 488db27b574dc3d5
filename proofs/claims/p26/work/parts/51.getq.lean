section GQ
variable {K : MK} {R : MR} {I J : MI} {t r b : Nat} {S : St}
theorem c_questionN {Q : Option Nat → MI → Prop} {x : Int32} {A : Nat} (hB : IsBus K R b) (hI : I b 5 = nI A) (hA : A < 2 ^ 31) (hx : ∀ q, q < A → x ≠ nI q) (h : Q none I) : w_X0_questionAt K R b x I Q := by
  unfold w_X0_questionAt w_X0_questionAt_b30 w_X0_questionAt_b31
  rw [hI]
  exact ⟨hB, c_idxN hA hx ⟨fun _ => h, fun c => absurd rfl c⟩⟩
theorem sw_no {x : Int32} {n : Nat} (hn : n < 2 ^ 31) (h : x.toInt < 0 ∨ (n : Int) < x.toInt) : ¬ ((0 : Int32) ≤ x ∧ x ≤ nI n) := by
  intro z
  have a := Int32.le_iff_toInt_le.mp z.1
  have b := Int32.le_iff_toInt_le.mp z.2
  rw [nI_toInt hn] at b
  have z0 : (0 : Int32).toInt = 0 := by decide
  omega
theorem c_atN {Q : Int32 → MI → Prop} {a n : Nat} {x : Int32} (hL : IsLine K R a) (hI : I a 1 = nI n) (hn : n ≤ 6) (hx : ∀ j, j < n → x ≠ nI j) (h : Q (-5) I) : w_X1_at K R a x I Q := by
  unfold w_X1_at w_X1_at_b29 w_X1_at_b31
  rw [hI]
  exact ⟨hL, c_idxN (by omega) hx ⟨fun _ => h, fun c => absurd rfl c⟩⟩
end GQ
