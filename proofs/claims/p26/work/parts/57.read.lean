section RW
variable {K : MK} {R : MR} {I J : MI} {t r b : Nat} {S : St}
theorem c_putOneNo {Q : Int32 → MI → Prop} {x y z w : Int32} (hT : IsTag K R t) (h1 : (∀ m, m < 4 → x ≠ nI m) ∨ (∀ m, m < 4 → y ≠ nI m) → Q (-1) I) (h2 : (∃ m, m < 4 ∧ x = nI m) → (∃ m, m < 4 ∧ y = nI m) → (∀ a, a < 16 → z ≠ nI a) → Q (-2) I) (h3 : ¬ ((∃ m, m < 4 ∧ x = nI m) ∧ (∃ m, m < 4 ∧ y = nI m) ∧ ∃ a, a < 16 ∧ z = nI a)) : w_X6_putOne K R t x y z w I Q := by
  have hB := hT.o0
  unfold w_X6_putOne w_X6_putOne_b26
  refine ⟨hT, ?_⟩
  rcases Gt_or (n := 4) x with ⟨m, hm, rfl⟩ | hx
  · refine c_masterAt hB hm ⟨fun z => (by cases z), fun r4 e4 => ?_⟩
    cases e4
    rcases Gt_or (n := 4) y with ⟨m', hm', rfl⟩ | hy
    · refine c_targetAt hB hm' ⟨fun z => (by cases z), fun r4 e4 => ?_⟩
      cases e4
      rcases Gt_or (n := 16) z with ⟨a, ha, rfl⟩ | hz
      · exact absurd ⟨⟨m, hm, rfl⟩, ⟨m', hm', rfl⟩, a, ha, rfl⟩ h3
      · exact c_idxN (n := 16) (by decide) hz ⟨fun q => absurd rfl q, fun _ => h2 ⟨m, hm, rfl⟩ ⟨m', hm', rfl⟩ hz⟩
    · exact c_targetNo hy ⟨fun _ => h1 (Or.inr hy), fun r4 z => by cases z⟩
  · exact c_masterNo hx ⟨fun _ => h1 (Or.inl hx), fun r4 z => by cases z⟩
end RW
