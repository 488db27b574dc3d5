def stA (I : MI) (a : Nat) (f : Nat → Int32) : MI := fun b j => if b = a then f j else I b j
theorem stA_s {I : MI} {a : Nat} {f : Nat → Int32} : stA I a f a = f := by funext j; simp [stA]
theorem stA_o {I : MI} {a b : Nat} {f : Nat → Int32} (h : b ≠ a) : stA I a f b = I b := by funext j; simp [stA, h]
theorem stA_self (I : MI) (a : Nat) : stA I a (I a) = I := by
  funext b j
  by_cases h : b = a
  · subst h; simp [stA]
  · simp [stA, h]
theorem up_A {I : MI} {a k : Nat} {f : Nat → Int32} {x : Int32} : upI (stA I a f) a k x = stA I a (fun j => if j = k then x else f j) := by
  funext b j
  by_cases h : b = a
  · subst h
    by_cases hj : j = k <;> simp [upI, stA, hj]
  · simp [upI, stA, h]
theorem stA_at {I : MI} {a k : Nat} {f : Nat → Int32} : stA I a f a k = f k := by simp [stA]
section KN
variable {K : MK} {R : MR} {I : MI}
theorem r_know49 {Q : MI → Prop} {r : Nat} {S : St} (h : RT K R r I S) (hc : S.c < 4) (hQ : ∀ I', RT K R r I' S.push → FrR r I I' → Q I') : w_X7_know_b49 K R r Q I := by
  have h0 := h
  obtain ⟨h1, h2, h3, h4, h5, ⟨h6, h7⟩, h8, h9, h10, h11⟩ := h
  have el : ∀ y : Nat, (2361 : Int32) * nI S.c + nI y = nI (2361 * S.c + y) := fun y => by
    rw [show (2361 : Int32) = nI 2361 from rfl, pk_mul, nI_add]
  unfold w_X7_know_b49 w_X7_know_b51
  intro X hX
  have key : ∀ d y, y + d = 2361 → X (nI y) (stA I (r + 3) (fun k => if 2361 * S.c ≤ k ∧ k < 2361 * S.c + y then S.σ (k - 2361 * S.c) else I (r + 3) k)) := by
    intro d
    induction d with
    | zero =>
      intro y hy
      refine hX _ _ ?_
      have hy2 : y = 2361 := by omega
      subst hy2
      unfold w_X7_know_b51_body
      simp (disch := omega) only [ll_2361, Nat.le_refl, true_implies, not_true, false_implies, and_true, forall_eq, stA_o, h7, nr_1]
      refine ⟨h1, hQ _ ⟨h1, ?_, ?_, h4, fun k hk hz => ?_, ⟨by show S.c + 1 ≤ 4; omega, ?_⟩, fun j hj k hk => ?_, h9, ?_, fun i hi => ?_⟩ (fun a ha => ?_)⟩
      · rw [upI_f (by omega), stA_o (by omega)]; exact h2
      · rw [upI_k (by omega), stA_o (by omega)]; exact h3
      · rw [upI_f (by omega), stA_o (by omega)]; exact h5 k hk hz
      · rw [upI_s]; rfl
      · have hj' : j < S.c + 1 := hj
        rw [upI_f (by omega), stA_at]
        show _ = (if j = S.c then S.σ else S.hs j) k
        by_cases e : j = S.c
        · subst e
          rw [if_pos rfl, if_pos (by omega), Nat.add_sub_cancel_left]
        · have : 2361 * j + 2361 ≤ 2361 * S.c := by omega
          rw [if_neg e, if_neg (by omega)]
          exact h8 j (by omega) k hk
      · rw [upI_k (by omega), stA_o (by omega)]; exact h10
      · rw [upI_f (by omega), stA_o (by omega)]; exact h11 i hi
      · rw [upI_f (by omega), stA_o (by omega)]
    | succ d ih =>
      intro y hy
      refine hX _ _ ?_
      have hle : ¬ 2361 ≤ y := by omega
      unfold w_X7_know_b51_body
      simp (disch := omega) only [ll_2361, hle, true_implies, not_true, not_false_iff, false_implies, and_true, true_and, forall_eq, stA_o, h7, h2, el, vpT, ix_nI, nr_1, up_A]
      refine ⟨h1, ?_⟩
      have ih1 := ih (y + 1) (by omega)
      have e : (fun j => if j = 2361 * S.c + y then S.σ y else if 2361 * S.c ≤ j ∧ j < 2361 * S.c + y then S.σ (j - 2361 * S.c) else I (r + 3) j) = (fun k => if 2361 * S.c ≤ k ∧ k < 2361 * S.c + (y + 1) then S.σ (k - 2361 * S.c) else I (r + 3) k) := by
        funext j
        by_cases ej : j = 2361 * S.c + y
        · rw [if_pos ej, if_pos (by omega)]
          congr 1
          omega
        · rw [if_neg ej]
          by_cases c : 2361 * S.c ≤ j ∧ j < 2361 * S.c + y
          · rw [if_pos c, if_pos (by omega)]
          · rw [if_neg c, if_neg (by omega)]
      rw [e]
      exact ih1
  have := key 2361 0 (by omega)
  have e : (fun k => if 2361 * S.c ≤ k ∧ k < 2361 * S.c + 0 then S.σ (k - 2361 * S.c) else I (r + 3) k) = I (r + 3) := by
    funext k
    rw [if_neg (by omega)]
  rw [e, stA_self] at this
  exact this
theorem r_know {Q : MI → Prop} {r : Nat} {S : St} (h : RT K R r I S) (hQ : ∀ I', RT K R r I' S.rec' → FrR r I I' → Q I') : w_X7_know K R r I Q := by
  have h0 := h
  obtain ⟨h1, h2, h3, h4, h5, ⟨h6, h7⟩, h8, h9, h10, h11⟩ := h
  unfold w_X7_know
  refine ⟨h1, fun c => ?_, fun c => ?_⟩
  · rw [h7] at c
    have hc : S.c < 4 := by
      rcases Nat.lt_or_ge S.c 4 with z | z
      · exact z
      · exact absurd (show nI S.c = 4 by rw [show S.c = 4 by omega]; rfl) c
    refine r_know49 h0 hc ?_
    unfold St.rec' at hQ
    rw [if_pos hc] at hQ
    exact hQ
  · rw [h7] at c
    have hc4 : S.c = 4 := nI_inj (b := 4) (by omega) (by omega) c
    unfold St.rec' at hQ
    rw [if_neg (by omega)] at hQ
    unfold w_X7_know_b10
    intro X hX
    have key : ∀ d y, y + d = 7083 → X (nI y) (stA I (r + 3) (fun k => if k < y then I (r + 3) (2361 + k) else I (r + 3) k)) := by
      intro d
      induction d with
      | zero =>
        intro y hy
        refine hX _ _ ?_
        have hy2 : y = 7083 := by omega
        subst hy2
        unfold w_X7_know_b10_body
        simp (disch := omega) only [ll_7083, Nat.le_refl, true_implies, not_true, false_implies, and_true, forall_eq, stA_o, h7]
        refine ⟨h1, r_know49 (S := S.drop) ⟨h1, ?_, ?_, h4, fun k hk hz => ?_, ⟨by show 3 ≤ 4; omega, ?_⟩, fun j hj k hk => ?_, h9, ?_, fun i hi => ?_⟩ (by show 3 < 4; omega) (fun I' a b => hQ I' a (fun c hc => (b c hc).trans ?_))⟩
        · rw [upI_f (by omega), stA_o (by omega)]; exact h2
        · rw [upI_k (by omega), stA_o (by omega)]; exact h3
        · rw [upI_f (by omega), stA_o (by omega)]; exact h5 k hk hz
        · rw [upI_s, hc4]; exact nI_s1 3
        · have hj3 : j < 3 := hj
          rw [upI_f (by omega), stA_at]
          show _ = S.hs (j + 1) k
          rw [if_pos (by omega), ← h8 (j + 1) (by omega) k hk]
          congr 1
          omega
        · rw [upI_k (by omega), stA_o (by omega)]; exact h10
        · rw [upI_f (by omega), stA_o (by omega)]; exact h11 i hi
        · rw [upI_f (by omega), stA_o (by omega)]
      | succ d ih =>
        intro y hy
        refine hX _ _ ?_
        have hle : ¬ 7083 ≤ y := by omega
        unfold w_X7_know_b10_body
        simp (disch := omega) only [ll_7083, hle, true_implies, not_true, not_false_iff, false_implies, and_true, true_and, forall_eq, stA_o, nl_2361, vpT, ix_nI, nr_1, up_A, stA_at]
        refine ⟨h1, ?_⟩
        have ih1 := ih (y + 1) (by omega)
        have e : (fun j => if j = y then (if 2361 + y < y then I (r + 3) (2361 + (2361 + y)) else I (r + 3) (2361 + y)) else if j < y then I (r + 3) (2361 + j) else I (r + 3) j) = (fun k => if k < y + 1 then I (r + 3) (2361 + k) else I (r + 3) k) := by
          funext j
          by_cases ej : j = y
          · subst ej
            rw [if_pos rfl, if_neg (by omega), if_pos (by omega)]
          · rw [if_neg ej]
            by_cases c : j < y
            · rw [if_pos c, if_pos (by omega)]
            · rw [if_neg c, if_neg (by omega)]
        rw [e]
        exact ih1
    have := key 7083 0 (by omega)
    have e : (fun k => if k < 0 then I (r + 3) (2361 + k) else I (r + 3) k) = I (r + 3) := by
      funext k
      rw [if_neg (by omega)]
    rw [e, stA_self] at this
    exact this
end KN
