theorem num_lt {len : Nat} {tx : Nat → Int32} {most p v p' : Nat} (h : num len tx most p = some (v, p')) : p < p' ∧ p' ≤ len ∧ v ≤ most := by
  unfold num at h
  cases hd : dig len tx p with
  | none => rw [hd] at h; cases h
  | some d =>
    obtain ⟨d1, d9, -, -⟩ := dig_some hd
    rw [hd] at h
    simp only at h
    by_cases c : most < d
    · rw [if_pos c] at h; cases h
    · rw [if_neg c] at h
      cases he : dig len tx (p + 1) with
      | none =>
        rw [he] at h
        simp only [Option.some.injEq, Prod.mk.injEq] at h
        omega
      | some e =>
        obtain ⟨e1, e9, -, -⟩ := dig_some he
        rw [he] at h
        simp only at h
        by_cases c2 : d = 0 ∨ most < d * 10 + e
        · rw [if_pos c2] at h
          simp only [Option.some.injEq, Prod.mk.injEq] at h
          omega
        · rw [if_neg c2] at h
          simp only [Option.some.injEq, Prod.mk.injEq] at h
          omega
section TXQ
variable {K : MK} {R : MR} {I J : MI} {a len : Nat} {tx : Nat → Int32}
theorem c_readQ {Q : Int32 → MI → Prop} {p rq : Nat} (hX : IsText K R a) (hT : TX I a len tx) (hp : p ≤ 60) (hq : IsQ K R rq) (h0 : ∀ e, pq len tx p = .inl e → Q 0 (upI I a 4 (nI e))) (h1 : ∀ m t av v p', pq len tx p = .inr (m, t, av, v, p') → w_X3_begin K R rq (nI m) (nI t) (nI av) v 0 (upI I a 4 (nI p')) (fun I3 => Q 1 I3)) : w_X4_readQuestion K R a (some rq) (upI I a 4 (nI p)) Q := by
  have h60 := hT.1
  have fin : ∀ (m t av : Nat) (v y4 : Int32) (p' : Nat), (y4 = 0 ∨ v ≠ -5) → pq len tx p = .inr (m, t, av, v, p') → w_X4_readQuestion_b108 K R a (some rq) Q (nI m) (nI t) y4 (nI av) v (upI I a 4 (nI p')) := by
    intro m t av v y4 p' hv e
    have hh := h1 _ _ _ _ _ e
    unfold w_X4_readQuestion_b108 w_X4_readQuestion_b124
    refine ⟨fun _ => ⟨rq, rfl, hq, hh⟩, fun z => ⟨fun _ => ⟨rq, rfl, hq, hh⟩, fun z2 => ?_⟩⟩
    rcases hv with hv | hv
    · exact absurd hv z
    · exact absurd z2 hv
  unfold w_X4_readQuestion w_X4_readQuestion_b21
  refine ⟨hX, c_number (most := 3) hX hT (by omega) (by omega) (fun e1 => ⟨fun _ => h0 p (by unfold pq; rw [e1]), fun z => absurd rfl z⟩) (fun m p1 e1 => ?_)⟩
  obtain ⟨m1, m2, m3⟩ := num_lt e1
  refine ⟨fun z => absurd z (nI_ne5 (by omega)), fun _ => ?_⟩
  refine c_skip (c := 62) hX hT (by omega) (fun l1 => ⟨fun z => absurd rfl z, fun _ => h0 p1 (by unfold pq; rw [e1]; simp only [if_neg l1])⟩) (fun l1 => ⟨fun _ => ?_, fun z => absurd z z10⟩)
  have l1' := (lit_iff.mp l1).1
  refine c_number (most := 3) hX hT (by omega) (by omega) (fun e2 => ⟨fun z => absurd rfl z, fun _ => h0 (p1 + 1) (by unfold pq; rw [e1]; simp only [if_pos l1, e2])⟩) (fun t p2 e2 => ⟨fun _ => ?_, fun z => absurd z (by have := num_lt e2; exact nI_ne5 (by omega))⟩)
  obtain ⟨t1, t2, t3⟩ := num_lt e2
  refine c_skip (c := 119) hX hT (by omega) (fun l2 => ⟨fun z => absurd rfl z, fun _ => ?_⟩) (fun l2 => ⟨fun _ => ?_, fun z => absurd z z10⟩)
  · refine c_skip (c := 114) hX hT (by omega) (fun l3 => ⟨fun z => absurd rfl z, fun _ => h0 p2 (by unfold pq; rw [e1]; simp only [if_pos l1, e2, if_neg l2, if_neg l3])⟩) (fun l3 => ⟨fun _ => ?_, fun z => absurd z z10⟩)
    have l3' := (lit_iff.mp l3).1
    unfold w_X4_readQuestion_b61 w_X4_readQuestion_b90
    refine ⟨hX, c_number (most := 15) hX hT (by omega) (by omega) (fun e3 => ⟨fun _ => h0 (p2 + 1) (by unfold pq; rw [e1]; simp only [if_pos l1, e2, if_neg l2, if_pos l3, e3]), fun z => absurd rfl z⟩) (fun av p3 e3 => ⟨fun z => absurd z (by have := num_lt e3; exact nI_ne5 (by omega)), fun _ => ⟨fun _ => ?_, fun z => absurd rfl z⟩⟩)⟩
    unfold w_X4_readQuestion_b92
    exact ⟨fun _ => fin m t av (-5) 0 p3 (Or.inl rfl) (by unfold pq; rw [e1]; simp only [if_pos l1, e2, if_neg l2, if_pos l3, e3]), fun z => absurd rfl z⟩
  · have l2' := (lit_iff.mp l2).1
    unfold w_X4_readQuestion_b61 w_X4_readQuestion_b90
    refine ⟨hX, c_number (most := 15) hX hT (by omega) (by omega) (fun e3 => ⟨fun _ => h0 (p2 + 1) (by unfold pq; rw [e1]; simp only [if_pos l1, e2, if_pos l2, e3]), fun z => absurd rfl z⟩) (fun av p3 e3 => ⟨fun z => absurd z (by have := num_lt e3; exact nI_ne5 (by omega)), fun _ => ⟨fun z => absurd z z10, fun _ => ?_⟩⟩)⟩
    obtain ⟨a1, a2, a3⟩ := num_lt e3
    refine c_skip (c := 61) hX hT (by omega) (fun l4 => ⟨fun z => absurd rfl z, fun _ => h0 p3 (by unfold pq; rw [e1]; simp only [if_pos l1, e2, if_pos l2, e3, if_neg l4])⟩) (fun l4 => ⟨fun _ => ?_, fun z => absurd z z10⟩)
    have l4' := (lit_iff.mp l4).1
    unfold w_X4_readQuestion_b92
    refine ⟨fun z => absurd z z10, fun _ => ⟨hX, c_number (most := 99) hX hT (by omega) (by omega) (fun e4 => ?_) (fun v p4 e4 => ?_)⟩⟩
    · unfold w_X4_readQuestion_b108
      exact ⟨fun z => absurd z z10, fun _ => ⟨fun z => absurd rfl z, fun _ => h0 (p3 + 1) (by unfold pq; rw [e1]; simp only [if_pos l1, e2, if_pos l2, e3, if_pos l4, e4])⟩⟩
    · have v3 := (num_lt e4).2.2
      exact fin m t av (nI v) 1 p4 (Or.inr (nI_ne5 (by omega))) (by unfold pq; rw [e1]; simp only [if_pos l1, e2, if_pos l2, e3, if_pos l4, e4])
end TXQ
