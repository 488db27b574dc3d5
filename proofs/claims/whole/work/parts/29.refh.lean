/-- a tick -/
def ansFst (σ : Sr) : Bool := σ 2 == 0 || (σ 2 == 2 && σ 5 == 0)
def isAns (σ : Sr) : Bool := (tgtO σ).isSome && (ansFst σ || (mstO σ).isNone)
/-- the trip: what it makes of the row, which it is, whose question -/
def tripS (σ : Sr) : Sr := if isAns σ = true then (match tgtO σ with
    | some t => (match ansO σ t with
      | some p => answersS σ t p
      | none => σ)
    | none => σ) else (match mstO σ with
    | some m => if full σ (tgt0 σ m) then backS σ m else goneS σ m
    | none => σ)
def tripK (σ : Sr) : Int32 := if isAns σ = true then 1 else (match mstO σ with
    | some m => if full σ (tgt0 σ m) then 2 else 0
    | none => -5)
def tripQ (σ : Sr) : Int32 := if isAns σ = true then (match tgtO σ with
    | some t => (match ansO σ t with
      | some p => nI (lsq σ t p)
      | none => -5)
    | none => -5) else (match mstO σ with
    | some m => nI (rwq σ m 0)
    | none => -5)
def idleS (σ : Sr) (k : Int32) : Sr := su σ 11 (σ 11 + (if k = -5 then 1 else 0))
def waitS (σ : Sr) (k : Int32) (g : Option Nat) : Nat → Sr
  | 0 => σ
  | m + 1 => su (waitS σ k g m) (21 + 11 * m + 10) (if loN σ m = 0 ∨ (k = 0 ∧ nI m = oI g) then 0 else waitS σ k g m (21 + 11 * m + 10) + 1)
def tickT (σ : Sr) (k : Int32) (g : Option Nat) : Sr := su (waitS (idleS σ k) k g 4) 0 (waitS (idleS σ k) k g 4 0 + 1)
def tickS (σ : Sr) : Sr := tickT (tripS (doAllS σ)) (tripK (doAllS σ)) (mstO (doAllS σ))
def tickK (σ : Sr) : Int32 := tripK (doAllS σ)
def tickQ (σ : Sr) : Int32 := tripQ (doAllS σ)
theorem waitS_n {σ : Sr} {k : Int32} {g : Option Nat} {s : Nat} : ∀ m, (∀ j, j < m → s ≠ 21 + 11 * j + 10) → waitS σ k g m s = σ s
  | 0, _ => rfl
  | m + 1, h => by
    unfold waitS
    rw [su_n (h m (by omega))]
    exact waitS_n m (fun j hj => h j (by omega))
theorem mstO_can {σ : Sr} {m : Nat} (h : mstO σ = some m) : canB σ m = true := by
  have hp : ∀ n g, patL σ n = some g → canB σ g = true := by
    intro n
    induction n with
    | zero => intro g h; cases h
    | succ n ih =>
      intro g h
      unfold patL at h
      split at h
      · rename_i hb
        cases h
        unfold patB at hb
        simp only [Bool.and_eq_true] at hb
        exact hb.1.1
      · exact ih g h
  unfold mstO at h
  split at h
  · rename_i g hg
    cases h
    exact hp 4 _ hg
  · rw [Option.map_eq_some_iff] at h
    obtain ⟨k, hk, rfl⟩ := h
    have := List.find?_some hk
    exact this
theorem canB_ok {σ : Sr} {m : Nat} (h : canB σ m = true) : 1 ≤ loN σ m ∧ (freeO σ).isSome = true := by
  unfold canB at h
  simp only [Bool.and_eq_true, decide_eq_true_eq] at h
  exact ⟨h.1.1.1, h.1.2⟩
theorem tgtO_ans {σ : Sr} {t : Nat} (h : tgtO σ = some t) : ∃ p, ansO σ t = some p := by
  unfold tgtO at h
  rw [Option.map_eq_some_iff] at h
  obtain ⟨k, hk, rfl⟩ := h
  have := List.find?_some hk
  exact Option.isSome_iff_exists.mp this
theorem tripS_inv {σ : Sr} (hS : InvS σ) : InvS (tripS σ) := by
  unfold tripS
  split
  · split
    · rename_i t ht
      obtain ⟨p, hp⟩ := tgtO_ans ht
      rw [hp]
      exact answersS_inv hS (tgtO_lt ht) (ansO_lt hp)
    · exact hS
  · split
    · rename_i m hm
      obtain ⟨h1, h2⟩ := canB_ok (mstO_can hm)
      split
      · exact backS_inv hS (mstO_lt hm)
      · rename_i hf
        exact goneS_inv hS (mstO_lt hm) h1 h2 hf
    · exact hS
theorem tickT_n {σ : Sr} {k : Int32} {g : Option Nat} {s : Nat} (h0 : s ≠ 0) (h11 : s ≠ 11) (hw : ∀ j, j < 4 → s ≠ 21 + 11 * j + 10) : tickT σ k g s = σ s := by
  unfold tickT
  rw [su_n h0, waitS_n 4 hw]
  unfold idleS
  rw [su_n h11]
theorem tickT_inv {σ : Sr} (hS : InvS σ) (k : Int32) (g : Option Nat) : InvS (tickT σ k g) := hS.fr (fun s hs => tickT_n (by unfold isStr at hs; omega) (by unfold isStr at hs; omega) (fun j hj => by unfold isStr at hs; omega)) (fun q => Or.inl (tickT_n (by omega) (by omega) (fun j hj => by omega)))
theorem tickS_inv {σ : Sr} (hS : InvS σ) : InvS (tickS σ) := tickT_inv (tripS_inv (doAllL_inv hS 4 (by omega)).1) _ _
section REF7
variable {K : MK} {R : MR} {I : MI} {r : Nat} {σ : Sr}
theorem ref_waits {Q : Int32 → MI → Prop} {k : Int32} {g : Option Nat} (hM : IsModel K R r) (hS : InvS σ) (h : Q k (stS I r (tickT σ k g))) : w_X7_tick_b106 K R r Q (oI g) k (stS I r σ) := by
  have hS1 : InvS (idleS σ k) := hS.fr (fun s hs => by unfold idleS; exact su_n (by unfold isStr at hs; omega)) (fun q => Or.inl (by unfold idleS; exact su_n (by omega)))
  have tail : w_X7_tick_b133 K R r Q (oI g) k 0 (stS I r (idleS σ k)) := by
    unfold tickT at h
    generalize idleS σ k = τ at h hS1 ⊢
    unfold w_X7_tick_b133
    intro X hX
    have key : ∀ d m, m + d = 4 → X (oI g) k (nI m) (stS I r (waitS τ k g m)) := by
      intro d
      induction d with
      | zero =>
        intro m hm
        refine hX _ _ _ _ ?_
        have hm4 : m = 4 := by omega
        subst hm4
        unfold w_X7_tick_b133_body
        simp (disch := omega) only [← Nat.add_assoc, stS_s, up_s, true_and, and_true, true_implies, forall_eq, not_true, not_false_iff, false_implies, of_l0, of_l1, of_l2, of_l3, of_l4, of_l5, of_l6, of_l7, of_l8, of_l9, of_l10, ofM_l0, ofM_l1, ofM_l2, ofM_l3, ofM_l4, ofM_l5, ofM_l6, ofM_l7, ofM_l8, ofM_l9, ofM_l10, ofT_l16, ofT_l17, ofT_l18, ofT_l19, ofT_l20, of_n, ofM_n, ofT_n, nl_1, nl_8, nl_13, nl_16, nl_20, nl_2361, nr_1, ix_nI, vpT, ll_4, Nat.le_refl]
        exact ⟨hM, h⟩
      | succ d ih =>
        intro m hm
        refine hX _ _ _ _ ?_
        have hm4 : ¬ 4 ≤ m := by omega
        have ih1 := ih (m + 1) (by omega)
        unfold waitS at ih1
        have hL := (hS1.rows (m := m) (by omega)).2.1
        have hL6 := (hS1.rows (m := m) (by omega)).1
        have hL2 : waitS τ k g m (21 + 11 * m + 0) = nI (loN τ m) := by rw [waitS_n m (fun j hj => by omega)]; exact hL
        unfold w_X7_tick_b133_body w_X7_tick_b164 w_X7_tick_b168 w_X7_tick_b169 w_X7_tick_b205
        simp (disch := omega) only [← Nat.add_assoc, stS_s, up_s, true_and, and_true, true_implies, forall_eq, not_true, not_false_iff, false_implies, of_l0, of_l1, of_l2, of_l3, of_l4, of_l5, of_l6, of_l7, of_l8, of_l9, of_l10, ofM_l0, ofM_l1, ofM_l2, ofM_l3, ofM_l4, ofM_l5, ofM_l6, ofM_l7, ofM_l8, ofM_l9, ofM_l10, ofT_l16, ofT_l17, ofT_l18, ofT_l19, ofT_l20, of_n, ofM_n, ofT_n, nl_1, nl_8, nl_13, nl_16, nl_20, nl_2361, nr_1, ix_nI, vpT, ll_4, hm4, hL2, el_0]
        refine ⟨hM, fun c => ⟨hM, fun e => absurd e (by decide), fun _ => ⟨hM, ?_⟩⟩, fun c => ⟨fun c2 => ⟨hM, hM, ?_⟩, fun c2 => ⟨fun c3 => ⟨hM, hM, ?_⟩, fun c3 => ⟨hM, fun e => absurd e (by decide), fun _ => ⟨hM, ?_⟩⟩⟩⟩⟩
        · rw [if_pos (Or.inl c)] at ih1
          exact ih1
        · rw [if_neg (fun z => z.elim c (fun z => c2 z.1))] at ih1
          exact ih1
        · rw [if_neg (fun z => z.elim c (fun z => c3 z.2))] at ih1
          exact ih1
        · rw [if_pos (Or.inr ⟨c2, c3⟩)] at ih1
          exact ih1
    exact key 4 0 rfl
  unfold idleS at tail
  unfold w_X7_tick_b106 w_X7_tick_b128
  simp (disch := omega) only [← Nat.add_assoc, stS_s, up_s, true_and, and_true, true_implies, forall_eq, not_true, not_false_iff, false_implies, of_l0, of_l1, of_l2, of_l3, of_l4, of_l5, of_l6, of_l7, of_l8, of_l9, of_l10, ofM_l0, ofM_l1, ofM_l2, ofM_l3, ofM_l4, ofM_l5, ofM_l6, ofM_l7, ofM_l8, ofM_l9, ofM_l10, ofT_l16, ofT_l17, ofT_l18, ofT_l19, ofT_l20, of_n, ofM_n, ofT_n, nl_1, nl_8, nl_13, nl_16, nl_20, nl_2361, nr_1, ix_nI, vpT, show ix (11 : Int32) = 11 by decide, show vp_in (11 : Int32) 2361 = True from eq_true (by unfold vp_in; decide)]
  refine ⟨hM, fun c => ⟨hM, ?_⟩, fun c => ⟨hM, ?_⟩⟩
  · rw [if_neg c] at tail
    exact tail
  · rw [if_pos c] at tail
    exact tail
theorem upI_upI (I : MI) (a k : Nat) (x y : Int32) : upI (upI I a k x) a k y = upI I a k y := by
  funext b j
  by_cases h : b = a ∧ j = k <;> simp [upI, h]
theorem ref_tick {Q : Int32 → MI → Prop} (hM : IsModel K R r) (hS : InvS σ) (h : Q (tickK σ) (stS (upI I r 12 (tickQ σ)) r (tickS σ))) : w_X7_tick K R r (stS I r σ) Q := by
  have h1 := (doAllL_inv hS 4 (by omega)).1
  unfold tickK tickQ tickS at h
  unfold w_X7_tick
  refine ⟨hM, ref_doAll hM hS (ref_target hM h1 (ref_master hM h1 ?_))⟩
  change InvS (doAllS σ) at h1
  have h3 := tripS_inv h1
  generalize doAllS σ = τ at h h1 h3 ⊢
  have ft : ∀ {o : Option Nat}, (∀ g, o = some g → g < 4) → ¬ oI o = -5 → ∃ g, o = some g := fun {o} ho hn => by
    cases o with
    | none => exact absurd rfl hn
    | some g => exact ⟨g, rfl⟩
  have hans : isAns τ = true → w_X7_tick_b69 K R r Q (oI (tgtO τ)) (oI (mstO τ)) 1 (stS I r τ) := by
    intro hi
    unfold tripS tripK tripQ at h
    unfold tripS at h3
    rw [if_pos hi] at h3
    rw [if_pos hi, if_pos hi, if_pos hi] at h
    unfold w_X7_tick_b69
    simp (disch := omega) only [← Nat.add_assoc, stS_s, up_s, true_and, and_true, true_implies, forall_eq, not_true, not_false_iff, false_implies, of_l0, of_l1, of_l2, of_l3, of_l4, of_l5, of_l6, of_l7, of_l8, of_l9, of_l10, ofM_l0, ofM_l1, ofM_l2, ofM_l3, ofM_l4, ofM_l5, ofM_l6, ofM_l7, ofM_l8, ofM_l9, ofM_l10, ofT_l16, ofT_l17, ofT_l18, ofT_l19, ofT_l20, of_n, ofM_n, ofT_n, nl_1, nl_8, nl_13, nl_16, nl_20, nl_2361, nr_1, ix_nI, vpT, up_r]
    refine ⟨hM, fun e => absurd e (by decide), fun _ => ?_⟩
    unfold isAns at hi
    simp only [Bool.and_eq_true] at hi
    obtain ⟨t, ht⟩ := Option.isSome_iff_exists.mp hi.1
    obtain ⟨p, hp⟩ := tgtO_ans ht
    have ht4 := tgtO_lt ht
    rw [ht] at h h3 ⊢
    simp only [hp] at h h3
    refine ref_answers hM h1 ht4 hp ?_
    obtain ⟨-, -, hl⟩ := h1.lists ht4
    rw [upI_upI, (hl p (ansO_lt hp)).2.1]
    exact ref_waits hM h3 h
  have hsnd : isAns τ = false → w_X7_tick_b69 K R r Q (oI (tgtO τ)) (oI (mstO τ)) 0 (stS I r τ) := by
    intro hi
    have hi' : ¬ isAns τ = true := by rw [hi]; decide
    unfold tripS tripK tripQ at h
    unfold tripS at h3
    rw [if_neg hi'] at h3
    rw [if_neg hi', if_neg hi', if_neg hi'] at h
    unfold w_X7_tick_b69
    simp (disch := omega) only [← Nat.add_assoc, stS_s, up_s, true_and, and_true, true_implies, forall_eq, not_true, not_false_iff, false_implies, of_l0, of_l1, of_l2, of_l3, of_l4, of_l5, of_l6, of_l7, of_l8, of_l9, of_l10, ofM_l0, ofM_l1, ofM_l2, ofM_l3, ofM_l4, ofM_l5, ofM_l6, ofM_l7, ofM_l8, ofM_l9, ofM_l10, ofT_l16, ofT_l17, ofT_l18, ofT_l19, ofT_l20, of_n, ofM_n, ofT_n, nl_1, nl_8, nl_13, nl_16, nl_20, nl_2361, nr_1, ix_nI, vpT, up_r]
    refine ⟨hM, fun e => ?_, fun e => ?_⟩
    · cases hm : mstO τ with
      | none =>
        rw [hm] at h h3
        exact ref_waits (g := none) hM h3 h
      | some m =>
        have := mstO_lt hm
        exact absurd e (oI_ne hm (by omega))
    · cases hm : mstO τ with
      | none => exact absurd (oI_none hm) e
      | some m =>
        rw [hm] at h h3
        obtain ⟨g1, g2⟩ := canB_ok (mstO_can hm)
        refine ref_sends hM h1 (mstO_lt hm) g1 g2 (fun hf => ?_) (fun hf => ?_)
        · simp only [if_pos hf] at h h3
          rw [upI_upI]
          exact ref_waits (g := some m) hM h3 h
        · simp only [if_neg hf] at h h3
          rw [upI_upI]
          exact ref_waits (g := some m) hM h3 h
  have step : ∀ z : Int32, (z = 1 ∧ ansFst τ = true ∨ z = 0 ∧ ansFst τ = false) → w_X7_tick_b47 K R r Q (oI (tgtO τ)) (oI (mstO τ)) z (stS I r τ) := by
    intro z hz
    unfold w_X7_tick_b47 w_X7_tick_b64 w_X7_tick_b68
    refine ⟨fun c => hsnd ?_, fun c => ⟨fun c2 => hans ?_, fun c2 => ⟨fun c3 => hsnd ?_, fun c3 => hans ?_⟩⟩⟩
    · have : tgtO τ = none := by
        cases ht : tgtO τ with
        | none => rfl
        | some t => have := tgtO_lt ht; exact absurd c (oI_ne ht (by omega))
      simp [isAns, this]
    · obtain ⟨t, ht⟩ := ft (fun g hg => tgtO_lt hg) c
      rcases hz with ⟨-, hz⟩ | ⟨hz, -⟩
      · simp [isAns, ht, hz]
      · exact absurd hz c2
    · obtain ⟨m, hm⟩ := ft (fun g hg => mstO_lt hg) c3
      rcases hz with ⟨hz, -⟩ | ⟨-, hz⟩
      · rw [c2] at hz; exact absurd hz (by decide)
      · simp [isAns, hm, hz]
    · obtain ⟨t, ht⟩ := ft (fun g hg => tgtO_lt hg) c
      have : mstO τ = none := by
        cases hm : mstO τ with
        | none => rfl
        | some t => have := mstO_lt hm; exact absurd c3 (oI_ne hm (by omega))
      simp [isAns, ht, this]
  unfold w_X7_tick_b42 w_X7_tick_b46
  simp (disch := omega) only [← Nat.add_assoc, stS_s, up_s, true_and, and_true, true_implies, forall_eq, not_true, not_false_iff, false_implies, of_l0, of_l1, of_l2, of_l3, of_l4, of_l5, of_l6, of_l7, of_l8, of_l9, of_l10, ofM_l0, ofM_l1, ofM_l2, ofM_l3, ofM_l4, ofM_l5, ofM_l6, ofM_l7, ofM_l8, ofM_l9, ofM_l10, ofT_l16, ofT_l17, ofT_l18, ofT_l19, ofT_l20, of_n, ofM_n, ofT_n, nl_1, nl_8, nl_13, nl_16, nl_20, nl_2361, nr_1, ix_nI, vpT]
  refine ⟨fun c => step 1 (Or.inl ⟨rfl, by simp [ansFst, c]⟩), fun c => ⟨fun c2 => step 0 (Or.inr ⟨rfl, by simp [ansFst, c, c2]⟩), fun c2 => ⟨fun c3 => step 0 (Or.inr ⟨rfl, by simp [ansFst, c, c3]⟩), fun c3 => step 1 (Or.inl ⟨rfl, by simp [ansFst, c2, c3]⟩)⟩⟩⟩
end REF7
