section GM
variable {K : MK} {R : MR} {I J : MI} {t r b : Nat} {S : St}
theorem max0 (d : Int32) : (if (0 : Int32) < d then d else 0) = (if (0 : Int32) ≤ d then d else 0) := by
  by_cases c : (0 : Int32) < d
  · rw [if_pos c, if_pos (Int32.le_of_lt c)]
  · rw [if_neg c]
    by_cases c2 : (0 : Int32) ≤ d
    · rw [if_pos c2]
      exact Int32.le_antisymm c2 (Int32.not_lt.mp c)
    · rw [if_neg c2]
end GM
