def t4 (a k : Nat) : Nat := (a + k) % 4
def tgtO (σ : Sr) : Option Nat := ((List.range 4).find? (fun k => (ansO σ (t4 (ix (σ 6)) k)).isSome)).map (t4 (ix (σ 6)))
def canB (σ : Sr) (m : Nat) : Bool := decide (1 ≤ loN σ m) && decide (¬ σ 0 < σ (21 + 11 * m + 9)) && (freeO σ).isSome && decide (¬ σ (21 + 11 * m + 7) ≤ nI (holdsN σ m))
def patB (σ : Sr) (f : Option Nat) (m : Nat) : Bool := canB σ m && decide (¬ σ (21 + 11 * m + 10) < σ 3) && (match f with
  | none => true
  | some g => decide (¬ σ (21 + 11 * m + 10) ≤ σ (21 + 11 * g + 10)))
def patL (σ : Sr) : Nat → Option Nat
  | 0 => none
  | m + 1 => if patB σ (patL σ m) m = true then some m else patL σ m
def mstO (σ : Sr) : Option Nat := match patL σ 4 with
  | some m => some m
  | none => ((List.range 4).find? (fun k => canB σ (t4 (ix (σ 7)) k))).map (t4 (ix (σ 7)))
theorem patL_lt {σ : Sr} : ∀ k g, patL σ k = some g → g < k
  | 0, g, h => by cases h
  | k + 1, g, h => by
    unfold patL at h
    split at h
    · cases h; omega
    · have := patL_lt k g h; omega
theorem nI_t4 {a k : Nat} (h : a + k < 2 ^ 31) : nI (a + k) - nI (a + k) / (4 : Int32) * (4 : Int32) = nI (t4 a k) := nI_mod4 h
theorem t4_lt (a k : Nat) : t4 a k < 4 := Nat.mod_lt _ (by decide)
theorem tgtO_lt {σ : Sr} {t : Nat} (h : tgtO σ = some t) : t < 4 := by
  unfold tgtO at h
  rw [Option.map_eq_some_iff] at h
  obtain ⟨k, -, rfl⟩ := h
  exact t4_lt _ _
theorem mstO_lt {σ : Sr} {m : Nat} (h : mstO σ = some m) : m < 4 := by
  unfold mstO at h
  split at h
  · rename_i g hg
    cases h
    exact patL_lt _ _ hg
  · rw [Option.map_eq_some_iff] at h
    obtain ⟨k, -, rfl⟩ := h
    exact t4_lt _ _
theorem oI_none {o : Option Nat} (h : o = none) : oI o = -5 := by rw [h]; rfl
theorem oI_ne {o : Option Nat} {g : Nat} (h : o = some g) (hg : g < 2 ^ 31) : oI o ≠ -5 := by rw [h]; exact nI_ne5 hg
theorem isSome_f {o : Option Nat} (h : o = none) : o.isSome = false := by rw [h]; rfl
theorem isSome_t {o : Option Nat} {g : Nat} (h : o = some g) : o.isSome = true := by rw [h]; rfl
theorem freeO_lt {σ : Sr} {k : Nat} (h : freeO σ = some k) : k < Tg_ σ ∧ σ (13 + k) = -5 := by
  unfold freeO at h
  rw [List.find?_range_eq_some] at h
  obtain ⟨h1, h2, -⟩ := h
  exact ⟨List.mem_range.mp h2, by simpa using h1⟩
section REF4
variable {K : MK} {R : MR} {I : MI} {r : Nat} {σ : Sr}
theorem InvS.rows (h : InvS σ) {m : Nat} (hm : m < 4) : loN σ m ≤ 6 ∧ σ (21 + 11 * m + 0) = nI (loN σ m) ∧ ∀ j, j < loN σ m → rwq σ m j < 200 ∧ rwq σ m j < ix (σ 4) ∧ σ (21 + 11 * m + 1 + j) = nI (rwq σ m j) ∧ σ (161 + 11 * rwq σ m j + 4) = 0 ∧ σ (161 + 11 * rwq σ m j + 0) = nI m ∧ QOK σ (rwq σ m j) ∧ ∀ i, i < j → σ (21 + 11 * m + 1 + i) ≠ nI (rwq σ m j) := by
  obtain ⟨T, A, a1, a2, a3, a4, a5, a6, a7, a8, a9, a10, a11⟩ := h
  obtain ⟨L, hL, e, hj⟩ := a9 m hm
  have en : loN σ m = L := ix_eq e (by omega)
  refine ⟨by omega, by rw [en]; exact e, fun j hjn => ?_⟩
  obtain ⟨q, hq, e1, e2, e3, e4⟩ := hj j (by omega)
  have eq : rwq σ m j = q := ix_eq e1 (by omega)
  have hA : ix (σ 4) = A := ix_eq a4 (by omega)
  rw [eq, hA]
  exact ⟨by omega, hq, e1, e2, e3, a11 q hq, e4⟩
theorem InvS.turns (h : InvS σ) : ix (σ 6) < 4 ∧ σ 6 = nI (ix (σ 6)) ∧ ix (σ 7) < 4 ∧ σ 7 = nI (ix (σ 7)) := by
  obtain ⟨T, A, a1, a2, a3, a4, a5, ⟨t, ht, e⟩, ⟨m, hm, e2⟩, -⟩ := h
  rw [ix_eq e (by omega), ix_eq e2 (by omega)]
  exact ⟨ht, e, hm, e2⟩
theorem ref_target {Q : Int32 → MI → Prop} (hM : IsModel K R r) (hS : InvS σ) (h : Q (oI (tgtO σ)) (stS I r σ)) : w_X7_targetThatGoes K R r (stS I r σ) Q := by
  obtain ⟨ht, et, -⟩ := hS.turns
  unfold w_X7_targetThatGoes w_X7_targetThatGoes_b2
  intro X hX
  have key : ∀ d k, k + d = 4 → (∀ j, j < k → (ansO σ (t4 (ix (σ 6)) j)).isSome = false) → X (nI k) (stS I r σ) := by
    intro d
    induction d with
    | zero =>
      intro k hk hj
      refine hX _ _ ?_
      have hk4 : 4 ≤ k := by omega
      unfold w_X7_targetThatGoes_b2_body
      simp (disch := omega) only [← Nat.add_assoc, stS_s, up_s, true_and, and_true, true_implies, forall_eq, not_true, not_false_iff, false_implies, of_l0, of_l1, of_l2, of_l3, of_l4, of_l5, of_l6, of_l7, of_l8, of_l9, of_l10, ofM_l0, ofM_l1, ofM_l2, ofM_l3, ofM_l4, ofM_l5, ofM_l6, ofM_l7, ofM_l8, ofM_l9, ofM_l10, ofT_l16, ofT_l17, ofT_l18, ofT_l19, ofT_l20, of_n, ofM_n, ofT_n, nl_1, nl_8, nl_13, nl_16, nl_20, nl_2361, nr_1, ix_nI, vpT, ll_4, hk4]
      have : tgtO σ = none := by unfold tgtO; rw [find_none (fun j h => hj j (by omega))]; rfl
      rw [this] at h
      exact h
    | succ d ih =>
      intro k hk hj
      refine hX _ _ ?_
      have hk4 : ¬ 4 ≤ k := by omega
      unfold w_X7_targetThatGoes_b2_body
      simp (disch := omega) only [← Nat.add_assoc, stS_s, up_s, true_and, and_true, true_implies, forall_eq, not_true, not_false_iff, false_implies, of_l0, of_l1, of_l2, of_l3, of_l4, of_l5, of_l6, of_l7, of_l8, of_l9, of_l10, ofM_l0, ofM_l1, ofM_l2, ofM_l3, ofM_l4, ofM_l5, ofM_l6, ofM_l7, ofM_l8, ofM_l9, ofM_l10, ofT_l16, ofT_l17, ofT_l18, ofT_l19, ofT_l20, of_n, ofM_n, ofT_n, nl_1, nl_8, nl_13, nl_16, nl_20, nl_2361, nr_1, ix_nI, vpT, ll_4, hk4]
      rw [et, nI_add, nI_t4 (by omega)]
      refine ⟨hM, ref_answering hM hS (t4_lt _ _) ?_⟩
      cases ha : ansO σ (t4 (ix (σ 6)) k) with
      | none =>
        refine ⟨fun _ => ?_, fun c => absurd rfl c⟩
        exact ih (k + 1) (by omega) (fun j h2 => by
          rcases Nat.lt_succ_iff_lt_or_eq.mp h2 with h3 | h3
          · exact hj j h3
          · subst h3; exact isSome_f ha)
      | some g =>
        have hg := ansO_lt ha
        have hn := (hS.lists (t := t4 (ix (σ 6)) k) (t4_lt _ _)).1
        refine ⟨fun c => absurd c (nI_ne5 (by omega)), fun _ => ?_⟩
        have : tgtO σ = some (t4 (ix (σ 6)) k) := by unfold tgtO; rw [find_some (k := k) (by omega) (isSome_t ha) hj]; rfl
        rw [this] at h
        exact h
  exact key 4 0 rfl (fun j h => absurd h (by omega))
theorem ref_canSend {Q : Int32 → MI → Prop} {m : Nat} (hM : IsModel K R r) (hS : InvS σ) (hm : m < 4) (h : Q (if canB σ m = true then 1 else 0) (stS I r σ)) : w_X7_canSend K R r (nI m) (stS I r σ) Q := by
  obtain ⟨hL, eL, -⟩ := hS.rows hm
  unfold w_X7_canSend w_X7_canSend_b65 w_X7_canSend_b66
  simp (disch := omega) only [← Nat.add_assoc, stS_s, up_s, true_and, and_true, true_implies, forall_eq, not_true, not_false_iff, false_implies, of_l0, of_l1, of_l2, of_l3, of_l4, of_l5, of_l6, of_l7, of_l8, of_l9, of_l10, ofM_l0, ofM_l1, ofM_l2, ofM_l3, ofM_l4, ofM_l5, ofM_l6, ofM_l7, ofM_l8, ofM_l9, ofM_l10, ofT_l16, ofT_l17, ofT_l18, ofT_l19, ofT_l20, of_n, ofM_n, ofT_n, nl_1, nl_8, nl_13, nl_16, nl_20, nl_2361, nr_1, ix_nI, vpT, eL, lr_0]
  refine ⟨hM, fun c => ⟨bz0, ?_⟩, fun c => ⟨fun c2 => ⟨bz0, ?_⟩, fun c2 => ref_freeTag hM hS.T ⟨fun c3 => ⟨bz0, ?_⟩, fun c3 => ref_holds hM hS hm ?_⟩⟩⟩
  · rw [if_neg (by simp [canB, show loN σ m = 0 by omega])] at h
    exact h
  · rw [if_neg (by simp [canB, c2])] at h
    exact h
  · have : (freeO σ).isSome = false := by
      cases hf : freeO σ with
      | none => rfl
      | some g =>
        obtain ⟨T, e1, e2, e3⟩ := hS.T
        have := (freeO_lt hf).1
        have hT : Tg_ σ = T := ix_eq e1 (by omega)
        exact absurd c3 (oI_ne hf (by omega))
    rw [if_neg (by simp [canB, this])] at h
    exact h
  · have hf : (freeO σ).isSome = true := by
      cases hf : freeO σ with
      | none => exact absurd (oI_none hf) c3
      | some g => rfl
    simp (disch := omega) only [← Nat.add_assoc, stS_s, up_s, true_and, and_true, true_implies, forall_eq, not_true, not_false_iff, false_implies, of_l0, of_l1, of_l2, of_l3, of_l4, of_l5, of_l6, of_l7, of_l8, of_l9, of_l10, ofM_l0, ofM_l1, ofM_l2, ofM_l3, ofM_l4, ofM_l5, ofM_l6, ofM_l7, ofM_l8, ofM_l9, ofM_l10, ofT_l16, ofT_l17, ofT_l18, ofT_l19, ofT_l20, of_n, ofM_n, ofT_n, nl_1, nl_8, nl_13, nl_16, nl_20, nl_2361, nr_1, ix_nI, vpT]
    refine ⟨fun c4 => ⟨bz0, ?_⟩, fun c4 => ⟨bz1, ?_⟩⟩
    · rw [if_neg (by simp [canB, c4])] at h
      exact h
    · rw [if_pos (by simp [canB, c4, hf, Int32.not_lt.mp c2, show 1 ≤ loN σ m by omega, Int32.not_le.mp c4])] at h
      exact h
theorem ref_master {Q : Int32 → MI → Prop} (hM : IsModel K R r) (hS : InvS σ) (h : Q (oI (mstO σ)) (stS I r σ)) : w_X7_masterThatGoes K R r (stS I r σ) Q := by
  obtain ⟨-, -, ht, et⟩ := hS.turns
  have second : w_X7_masterThatGoes_b75 K R r Q (oI (patL σ 4)) 0 (stS I r σ) := by
    unfold w_X7_masterThatGoes_b75
    intro X hX
    cases hp : patL σ 4 with
    | some g =>
      have hg := patL_lt _ _ hp
      have hg5 := nI_ne5 (k := g) (by omega)
      refine hX _ _ _ ?_
      unfold w_X7_masterThatGoes_b75_body w_X7_masterThatGoes_b118
      have : mstO σ = some g := by unfold mstO; rw [hp]
      rw [this] at h
      exact ⟨fun c => absurd c (by decide), fun _ => ⟨fun _ => h, fun c => absurd c hg5⟩⟩
    | none =>
      have key : ∀ d k, k + d = 4 → (∀ j, j < k → canB σ (t4 (ix (σ 7)) j) = false) → X (-5) (nI k) (stS I r σ) := by
        intro d
        induction d with
        | zero =>
          intro k hk hj
          refine hX _ _ _ ?_
          have hk4 : 4 ≤ k := by omega
          unfold w_X7_masterThatGoes_b75_body w_X7_masterThatGoes_b118
          simp (disch := omega) only [← Nat.add_assoc, stS_s, up_s, true_and, and_true, true_implies, forall_eq, not_true, not_false_iff, false_implies, of_l0, of_l1, of_l2, of_l3, of_l4, of_l5, of_l6, of_l7, of_l8, of_l9, of_l10, ofM_l0, ofM_l1, ofM_l2, ofM_l3, ofM_l4, ofM_l5, ofM_l6, ofM_l7, ofM_l8, ofM_l9, ofM_l10, ofT_l16, ofT_l17, ofT_l18, ofT_l19, ofT_l20, of_n, ofM_n, ofT_n, nl_1, nl_8, nl_13, nl_16, nl_20, nl_2361, nr_1, ix_nI, vpT, ll_4, hk4]
          have : mstO σ = none := by unfold mstO; rw [hp, find_none (fun j h => hj j (by omega))]; rfl
          rw [this] at h
          exact h
        | succ d ih =>
          intro k hk hj
          refine hX _ _ _ ?_
          have hk4 : ¬ 4 ≤ k := by omega
          unfold w_X7_masterThatGoes_b75_body w_X7_masterThatGoes_b111
          simp (disch := omega) only [← Nat.add_assoc, stS_s, up_s, true_and, and_true, true_implies, forall_eq, not_true, not_false_iff, false_implies, of_l0, of_l1, of_l2, of_l3, of_l4, of_l5, of_l6, of_l7, of_l8, of_l9, of_l10, ofM_l0, ofM_l1, ofM_l2, ofM_l3, ofM_l4, ofM_l5, ofM_l6, ofM_l7, ofM_l8, ofM_l9, ofM_l10, ofT_l16, ofT_l17, ofT_l18, ofT_l19, ofT_l20, of_n, ofM_n, ofT_n, nl_1, nl_8, nl_13, nl_16, nl_20, nl_2361, nr_1, ix_nI, vpT, ll_4, hk4]
          rw [et, nI_add, nI_t4 (by omega)]
          refine ⟨hM, ref_canSend hM hS (t4_lt _ _) ⟨fun c => ?_, fun c => ?_⟩⟩
          · have hf : canB σ (t4 (ix (σ 7)) k) = false := by
              cases hb : canB σ (t4 (ix (σ 7)) k) with
              | false => rfl
              | true => rw [hb] at c; exact absurd c (by decide)
            exact ih (k + 1) (by omega) (fun j h2 => by
              rcases Nat.lt_succ_iff_lt_or_eq.mp h2 with h3 | h3
              · exact hj j h3
              · subst h3; exact hf)
          · have hf : canB σ (t4 (ix (σ 7)) k) = true := by
              cases hb : canB σ (t4 (ix (σ 7)) k) with
              | true => rfl
              | false => rw [hb] at c; exact absurd (by rfl) c
            have : mstO σ = some (t4 (ix (σ 7)) k) := by unfold mstO; rw [hp, find_some (k := k) (by omega) hf hj]; rfl
            rw [this] at h
            have h5 := nI_ne5 (k := t4 (ix (σ 7)) k) (by have := t4_lt (ix (σ 7)) k; omega)
            refine hX _ _ _ ?_
            unfold w_X7_masterThatGoes_b75_body w_X7_masterThatGoes_b118
            exact ⟨fun _ => h, fun _ => ⟨fun _ => h, fun c => absurd c h5⟩⟩
      exact key 4 0 rfl (fun j h => absurd h (by omega))
  unfold w_X7_masterThatGoes w_X7_masterThatGoes_b5
  intro X hX
  have key : ∀ d k, k + d = 4 → X (oI (patL σ k)) (nI k) (stS I r σ) := by
    intro d
    induction d with
    | zero =>
      intro k hk
      refine hX _ _ _ ?_
      have hk4 : k = 4 := by omega
      subst hk4
      unfold w_X7_masterThatGoes_b5_body
      simp (disch := omega) only [← Nat.add_assoc, stS_s, up_s, true_and, and_true, true_implies, forall_eq, not_true, not_false_iff, false_implies, of_l0, of_l1, of_l2, of_l3, of_l4, of_l5, of_l6, of_l7, of_l8, of_l9, of_l10, ofM_l0, ofM_l1, ofM_l2, ofM_l3, ofM_l4, ofM_l5, ofM_l6, ofM_l7, ofM_l8, ofM_l9, ofM_l10, ofT_l16, ofT_l17, ofT_l18, ofT_l19, ofT_l20, of_n, ofM_n, ofT_n, nl_1, nl_8, nl_13, nl_16, nl_20, nl_2361, nr_1, ix_nI, vpT, ll_4, Nat.le_refl]
      exact second
    | succ d ih =>
      intro k hk
      refine hX _ _ _ ?_
      have hk4 : ¬ 4 ≤ k := by omega
      have ih1 := ih (k + 1) (by omega)
      unfold patL at ih1
      unfold w_X7_masterThatGoes_b5_body w_X7_masterThatGoes_b65 w_X7_masterThatGoes_b61 w_X7_masterThatGoes_b66
      simp (disch := omega) only [← Nat.add_assoc, stS_s, up_s, true_and, and_true, true_implies, forall_eq, not_true, not_false_iff, false_implies, of_l0, of_l1, of_l2, of_l3, of_l4, of_l5, of_l6, of_l7, of_l8, of_l9, of_l10, ofM_l0, ofM_l1, ofM_l2, ofM_l3, ofM_l4, ofM_l5, ofM_l6, ofM_l7, ofM_l8, ofM_l9, ofM_l10, ofT_l16, ofT_l17, ofT_l18, ofT_l19, ofT_l20, of_n, ofM_n, ofT_n, nl_1, nl_8, nl_13, nl_16, nl_20, nl_2361, nr_1, ix_nI, vpT, ll_4, hk4]
      refine ⟨hM, ref_canSend hM hS (by omega) ⟨fun c => ?_, fun c => ⟨fun c2 => ?_, fun c2 => ⟨fun c3 => ?_, fun c3 => ?_⟩⟩⟩⟩
      · have hf : canB σ k = false := by
          cases hb : canB σ k with
          | false => rfl
          | true => rw [hb] at c; exact absurd c (by decide)
        rw [if_neg (by simp [patB, hf])] at ih1
        exact ih1
      · simp only [← Nat.add_assoc, stS_s, up_s, true_and, and_true, true_implies, forall_eq, not_true, not_false_iff, false_implies, of_l0, of_l1, of_l2, of_l3, of_l4, of_l5, of_l6, of_l7, of_l8, of_l9, of_l10, ofM_l0, ofM_l1, ofM_l2, ofM_l3, ofM_l4, ofM_l5, ofM_l6, ofM_l7, ofM_l8, ofM_l9, ofM_l10, ofT_l16, ofT_l17, ofT_l18, ofT_l19, ofT_l20, of_n, ofM_n, ofT_n, nl_1, nl_8, nl_13, nl_16, nl_20, nl_2361, nr_1, ix_nI, vpT] at c2
        rw [if_neg (by simp [patB, c2])] at ih1
        exact ih1
      · simp only [← Nat.add_assoc, stS_s, up_s, true_and, and_true, true_implies, forall_eq, not_true, not_false_iff, false_implies, of_l0, of_l1, of_l2, of_l3, of_l4, of_l5, of_l6, of_l7, of_l8, of_l9, of_l10, ofM_l0, ofM_l1, ofM_l2, ofM_l3, ofM_l4, ofM_l5, ofM_l6, ofM_l7, ofM_l8, ofM_l9, ofM_l10, ofT_l16, ofT_l17, ofT_l18, ofT_l19, ofT_l20, of_n, ofM_n, ofT_n, nl_1, nl_8, nl_13, nl_16, nl_20, nl_2361, nr_1, ix_nI, vpT] at c2
        have hf : canB σ k = true := by
          cases hb : canB σ k with
          | true => rfl
          | false => rw [hb] at c; exact absurd (by rfl) c
        have hp : patL σ k = none := by
          cases hp : patL σ k with
          | none => rfl
          | some g =>
            have := patL_lt _ _ hp
            exact absurd c3 (oI_ne hp (by omega))
        rw [hp, if_pos (by simp [patB, hf, Int32.not_lt.mp c2])] at ih1
        exact ih1
      · simp only [← Nat.add_assoc, stS_s, up_s, true_and, and_true, true_implies, forall_eq, not_true, not_false_iff, false_implies, of_l0, of_l1, of_l2, of_l3, of_l4, of_l5, of_l6, of_l7, of_l8, of_l9, of_l10, ofM_l0, ofM_l1, ofM_l2, ofM_l3, ofM_l4, ofM_l5, ofM_l6, ofM_l7, ofM_l8, ofM_l9, ofM_l10, ofT_l16, ofT_l17, ofT_l18, ofT_l19, ofT_l20, of_n, ofM_n, ofT_n, nl_1, nl_8, nl_13, nl_16, nl_20, nl_2361, nr_1, ix_nI, vpT] at c2
        have hf : canB σ k = true := by
          cases hb : canB σ k with
          | true => rfl
          | false => rw [hb] at c; exact absurd (by rfl) c
        cases hp : patL σ k with
        | none => exact absurd (oI_none hp) c3
        | some g =>
          have := patL_lt _ _ hp
          rw [hp] at ih1
          simp (disch := omega) only [← Nat.add_assoc, stS_s, up_s, true_and, and_true, true_implies, forall_eq, not_true, not_false_iff, false_implies, of_l0, of_l1, of_l2, of_l3, of_l4, of_l5, of_l6, of_l7, of_l8, of_l9, of_l10, ofM_l0, ofM_l1, ofM_l2, ofM_l3, ofM_l4, ofM_l5, ofM_l6, ofM_l7, ofM_l8, ofM_l9, ofM_l10, ofT_l16, ofT_l17, ofT_l18, ofT_l19, ofT_l20, of_n, ofM_n, ofT_n, nl_1, nl_8, nl_13, nl_16, nl_20, nl_2361, nr_1, ix_nI, vpT, oI]
          refine ⟨fun c4 => ?_, fun c4 => ?_⟩
          · rw [if_neg (by simp [patB, c4])] at ih1
            exact ih1
          · rw [if_pos (by simp [patB, hf, Int32.not_lt.mp c2, Int32.not_le.mp c4])] at ih1
            exact ih1
  exact key 4 0 rfl
end REF4
