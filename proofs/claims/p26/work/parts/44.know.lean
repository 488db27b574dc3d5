def stA (I : MI) (a : Nat) (f : Nat → Int32) : MI := fun b j => if b = a then f j else I b j
theorem stA_s {I : MI} {a : Nat} {f : Nat → Int32} : stA I a f a = f := by funext j; simp [stA]
theorem stA_o {I : MI} {a b : Nat} {f : Nat → Int32} (h : b ≠ a) : stA I a f b = I b := by funext j; simp [stA, h]
theorem stA_self (I : MI) (a : Nat) : stA I a (I a) = I := by
  funext b j
  by_cases h : b = a
  · subst h; simp [stA]
  · simp [stA, h]
theorem up_A {I : MI} {a k : Nat} {f : Nat → Int32} {x : Int32} : upI (stA I a f) a k x = stA I a (fun j => if j = k then x else f j) := by
  funext b j
  by_cases h : b = a
  · subst h
    by_cases hj : j = k <;> simp [upI, stA, hj]
  · simp [upI, stA, h]
theorem stA_at {I : MI} {a k : Nat} {f : Nat → Int32} : stA I a f a k = f k := by simp [stA]
section KN
variable {K : MK} {R : MR} {I : MI}
end KN
