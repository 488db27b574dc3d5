abbrev Qn : Type := Nat × Nat × Nat × Int32
/-- the questions of a text from a place on, and its fault -/
def ps (len : Nat) (tx : Nat → Int32) : Nat → Nat → List Qn × Option Nat
  | 0, p => ([], some p)
  | f + 1, p => match pq len tx p with
    | .inl e => ([], some e)
    | .inr (m, t, a, v, p') => if len ≤ p' then ([(m, t, a, v)], none) else if lit len tx 59 p' then ((m, t, a, v) :: (ps len tx f (p' + 1)).1, (ps len tx f (p' + 1)).2) else ([(m, t, a, v)], some p')
theorem pq_lt {len : Nat} {tx : Nat → Int32} {p m t a p' : Nat} {v : Int32} (h : pq len tx p = .inr (m, t, a, v, p')) : p + 5 ≤ p' ∧ p' ≤ len ∧ m ≤ 3 ∧ t ≤ 3 ∧ a ≤ 15 := by
  unfold pq at h
  cases e1 : num len tx 3 p with
  | none => rw [e1] at h; cases h
  | some r1 =>
    obtain ⟨m1, p1⟩ := r1
    rw [e1] at h
    simp only at h
    have n1 := num_lt e1
    by_cases l1 : lit len tx 62 p1 = true
    · rw [if_pos l1] at h
      cases e2 : num len tx 3 (p1 + 1) with
      | none => rw [e2] at h; cases h
      | some r2 =>
        obtain ⟨t1, p2⟩ := r2
        rw [e2] at h
        simp only at h
        have n2 := num_lt e2
        by_cases l2 : lit len tx 119 p2 = true
        · rw [if_pos l2] at h
          cases e3 : num len tx 15 (p2 + 1) with
          | none => rw [e3] at h; cases h
          | some r3 =>
            obtain ⟨a1, p3⟩ := r3
            rw [e3] at h
            simp only at h
            have n3 := num_lt e3
            by_cases l3 : lit len tx 61 p3 = true
            · rw [if_pos l3] at h
              cases e4 : num len tx 99 (p3 + 1) with
              | none => rw [e4] at h; cases h
              | some r4 =>
                obtain ⟨v1, p4⟩ := r4
                rw [e4] at h
                have n4 := num_lt e4
                simp only [Sum.inr.injEq, Prod.mk.injEq] at h
                omega
            · rw [if_neg l3] at h; cases h
        · rw [if_neg l2] at h
          by_cases l3 : lit len tx 114 p2 = true
          · rw [if_pos l3] at h
            cases e3 : num len tx 15 (p2 + 1) with
            | none => rw [e3] at h; cases h
            | some r3 =>
              obtain ⟨a1, p3⟩ := r3
              rw [e3] at h
              have n3 := num_lt e3
              simp only [Sum.inr.injEq, Prod.mk.injEq] at h
              omega
          · rw [if_neg l3] at h; cases h
    · rw [if_neg l1] at h; cases h
section TXF
variable {K : MK} {R : MR} {I J : MI} {a len : Nat} {tx : Nat → Int32}
theorem c_begin {Q : MI → Prop} {rq : Nat} {x1 x2 x3 x4 x5 : Int32} (hq : IsQ K R rq) (h : ∀ I', (∀ c, c ≠ rq → I' c = I c) → I' rq 0 = x1 → I' rq 1 = x2 → I' rq 2 = x3 → I' rq 3 = x4 → Q I') : w_X3_begin K R rq x1 x2 x3 x4 x5 I Q := by
  unfold w_X3_begin
  simp only [forall_eq]
  refine ⟨hq, h _ (fun c hc => ?_) ?_ ?_ ?_ ?_⟩ <;> simp (disch := omega) only [upI_f, upI_s, upI_k]
/-- the questions found -/
def FQ (I : MI) (a : Nat) (L : List Qn) : Prop := ∀ j m t av v, L[j]? = some (m, t, av, v) → I (a + 3 + j) 0 = nI m ∧ I (a + 3 + j) 1 = nI t ∧ I (a + 3 + j) 2 = nI av ∧ I (a + 3 + j) 3 = v
def FrX (a : Nat) (I I' : MI) : Prop := (∀ c, c ≠ a → (c < a + 3 ∨ a + 13 ≤ c) → I' c = I c) ∧ I' a 1 = I a 1
theorem c_findFault {Q : Int32 → MI → Prop} (hX : IsText K R a) (hT : TX I a len tx) (h0 : ∀ e I', (ps len tx 10 0).2 = some e → FrX a I I' → Q (nI e) I') (h1 : ∀ I', (ps len tx 10 0).2 = none → FrX a I I' → (ps len tx 10 0).1.length ≤ 10 → I' a 3 = nI (ps len tx 10 0).1.length → FQ I' a (ps len tx 10 0).1 → Q (-5) I') : w_X4_findFault K R a I Q := by
  have h60 := hT.1
  unfold w_X4_findFault w_X4_findFault_b12
  refine ⟨hX, ?_⟩
  intro I14 e14 I15 e15 X hXX
  have key : ∀ f i p acc I', i + f = 10 → p ≤ 60 → acc.length = i → (ps len tx 10 0).1 = acc ++ (ps len tx f p).1 → (ps len tx 10 0).2 = (ps len tx f p).2 → FrX a I I' → I' a 4 = nI p → I' a 3 = nI i → FQ I' a acc → X (nI i) I' := by
    intro f
    induction f with
    | zero =>
      intro i p acc I' hi hp ha s1 s2 hf h4 h3 hq
      refine hXX _ _ ?_
      have hi10 : i = 10 := by omega
      subst hi10
      unfold w_X4_findFault_b12_body
      rw [h4]
      exact ⟨fun _ => ⟨hX, h0 p I' s2 hf⟩, fun z => absurd (show (10 : Int32) ≤ nI 10 by decide) z⟩
    | succ f ih =>
      intro i p acc I' hi hp ha s1 s2 hf h4 h3 hq
      refine hXX _ _ ?_
      have hi10 : ¬ 10 ≤ i := by omega
      have hT' : TX I' a len tx := ⟨h60, by rw [hf.2]; exact hT.2.1, fun j hj => by rw [hf.1 (a + 1) (by omega) (by omega)]; exact hT.2.2 j hj⟩
      unfold w_X4_findFault_b12_body
      refine ⟨fun z => absurd ((nI_leI (a := 10) (by omega) (by omega)).mp z) hi10, fun _ => ⟨hX, vp_in_nI (by omega) (by decide), ?_⟩⟩
      rw [ix_nI (by omega)]
      have eI : upI I' a 4 (nI p) = I' := by
        funext c j
        by_cases h : c = a ∧ j = 4
        · obtain ⟨rfl, rfl⟩ := h
          rw [upI_s, h4]
        · simp [upI, h]
      have hrd := c_readQ (K := K) (R := R) (I := I') (a := a) (len := len) (tx := tx) (p := p) (rq := a + 3 + i) (Q := fun v5 I4 => ((¬ v5 = 0 → ∀ I6, I6 = upI I4 a 3 ((I4 a 3) + (1:Int32)) → (((I6 a 4) < (I6 a 1) → w_X4_skip K R a (59:Int32) I6 (fun v8 I7 => ((¬ v8 = 0 → X (nI i + (1:Int32)) I7) ∧ (v8 = 0 → Q (I7 a 4) I7)))) ∧ (¬ (I6 a 4) < (I6 a 1) → Q (-5:Int32) I6))) ∧ (v5 = 0 → Q (I4 a 4) I4))) hX hT' hp (hX.p2 (by omega)) (fun e he => ?_) (fun m t av v p' he => ?_)
      · rw [eI] at hrd
        exact hrd
      · refine ⟨fun z => absurd rfl z, fun _ => ?_⟩
        rw [upI_s]
        refine h0 e _ ?_ ⟨fun c c1 c2 => by rw [upI_f c1]; exact hf.1 c c1 c2, by rw [upI_k (by omega)]; exact hf.2⟩
        rw [s2]
        unfold ps
        rw [he]
      · obtain ⟨b1, b2, b3, b4, b5⟩ := pq_lt he
        refine c_begin (hX.p2 (by omega)) (fun I3 f1 v0 v1 v2 v3 => ⟨fun _ => ?_, fun z => absurd z z10⟩)
        intro I6 e6
        have g4 : I6 a 4 = nI p' := by rw [e6, upI_k (by omega), f1 a (by omega), upI_s]
        have g1 : I6 a 1 = nI len := by rw [e6, upI_k (by omega), f1 a (by omega), upI_k (by omega)]; exact hT'.2.1
        have g3 : I6 a 3 = nI (i + 1) := by rw [e6, upI_s, f1 a (by omega), upI_k (by omega), h3, nr_1]
        have go : ∀ c, c ≠ a → c ≠ a + 3 + i → I6 c = I' c := fun c c1 c2 => by rw [e6, upI_f c1, f1 c c2, upI_f c1]
        have gf : FrX a I I6 := ⟨fun c c1 c2 => by rw [go c c1 (by omega)]; exact hf.1 c c1 c2, by rw [g1]; exact hT.2.1.symm⟩
        have gq : FQ I6 a (acc ++ [(m, t, av, v)]) := by
          intro j m' t' av' v' hj
          by_cases ej : j < i
          · rw [List.getElem?_append_left (by omega)] at hj
            rw [go _ (by omega) (by omega)]
            exact hq j m' t' av' v' hj
          · rw [List.getElem?_append_right (by omega)] at hj
            have ej2 : j = i := by
              rcases Nat.lt_or_ge i j with q | q
              · rw [List.getElem?_eq_none (by simp; omega)] at hj; cases hj
              · omega
            subst ej2
            rw [ha, Nat.sub_self] at hj
            simp only [List.getElem?_cons_zero, Option.some.injEq, Prod.mk.injEq] at hj
            obtain ⟨rfl, rfl, rfl, rfl⟩ := hj
            have gb : ∀ k, I6 (a + 3 + j) k = I3 (a + 3 + j) k := fun k => by rw [e6, upI_f (by omega)]
            rw [gb, gb, gb, gb]
            exact ⟨v0, v1, v2, v3⟩
        rw [g4, g1]
        refine ⟨fun c => ?_, fun c => ?_⟩
        · have hc := (nI_ltI (by omega) (by omega)).mp c
          have eI6 : upI I6 a 4 (nI p') = I6 := by
            funext c j
            by_cases h : c = a ∧ j = 4
            · obtain ⟨rfl, rfl⟩ := h
              rw [upI_s, g4]
            · simp [upI, h]
          have hT6 : TX I6 a len tx := ⟨h60, g1, fun j hj => by rw [go _ (by omega) (by omega)]; exact hT'.2.2 j hj⟩
          rw [← eI6]
          refine c_skip (c := 59) hX hT6 (by omega) (fun l => ⟨fun z => absurd rfl z, fun _ => ?_⟩) (fun l => ⟨fun _ => ?_, fun z => absurd z z10⟩)
          · rw [eI6, g4]
            refine h0 p' _ ?_ gf
            rw [s2]
            unfold ps
            rw [he]
            simp only [if_neg (show ¬ len ≤ p' by omega), if_neg l]
          · rw [nr_1]
            refine ih (i + 1) (p' + 1) (acc ++ [(m, t, av, v)]) _ (by omega) (by omega) (by simp [ha]) ?_ ?_ ⟨fun c c1 c2 => by rw [upI_f c1]; exact gf.1 c c1 c2, by rw [upI_k (by omega)]; exact gf.2⟩ upI_s (by rw [upI_k (by omega)]; exact g3) (fun j m' t' av' v' hj => ?_)
            · rw [s1]
              conv => lhs; unfold ps
              rw [he]
              simp only [if_neg (show ¬ len ≤ p' by omega), if_pos l]
              simp
            · rw [s2]
              conv => lhs; unfold ps
              rw [he]
              simp only [if_neg (show ¬ len ≤ p' by omega), if_pos l]
            · rw [upI_f (by omega)]
              exact gq j m' t' av' v' hj
        · have hc : len ≤ p' := by
            rcases Nat.lt_or_ge p' len with q | q
            · exact absurd ((nI_ltI (by omega) (by omega)).mpr q) c
            · exact q
          have eL : (ps len tx 10 0).1 = acc ++ [(m, t, av, v)] := by
            rw [s1]
            conv => lhs; unfold ps
            rw [he]
            simp only [if_pos hc]
          refine h1 _ ?_ gf ?_ ?_ ?_
          · rw [s2]
            unfold ps
            rw [he]
            simp only [if_pos hc]
          · rw [eL]; simp [ha]; omega
          · rw [eL, g3]; simp [ha]
          · rw [eL]; exact gq
  exact key 10 0 0 [] I15 (by omega) (by omega) rfl (by simp) rfl ⟨fun c c1 c2 => by rw [e15, upI_f c1, e14, upI_f c1], by rw [e15, upI_k (by omega), e14, upI_k (by omega)]⟩ (by rw [e15, upI_k (by omega), e14, upI_s]; rfl) (by rw [e15, upI_s]; rfl) (fun j m t av v hj => by simp at hj)
end TXF
