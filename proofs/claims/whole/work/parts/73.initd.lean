/-! A NEW MODEL; how both begin -/
def sM (y k : Nat) : Int32 :=
  if k = 1 then 4 else if k = 3 then 12 else if k = 5 then 1
  else if 21 ≤ k ∧ k < 21 + 11 * y ∧ (k - 21) % 11 = 7 then 2
  else if 65 ≤ k ∧ k < 65 + 24 * y ∧ (k - 65) % 24 = 16 then 2
  else if 65 ≤ k ∧ k < 65 + 24 * y ∧ (k - 65) % 24 = 17 then 3 else 0
def sL (y k : Nat) : Int32 := if 13 ≤ k ∧ k < 13 + y then -5 else sM 4 k
def σ0 : Sr := sL 8
theorem sM_step {y : Nat} (hy : y < 4) {f : Nat → Int32} (hf : f = sM y) : (fun j => if j = 65 + 24 * y + 17 then (3 : Int32) else if j = 65 + 24 * y + 16 then 2 else if j = 21 + 11 * y + 7 then 2 else f j) = sM (y + 1) := by
  subst hf
  funext j
  show (if j = 65 + 24 * y + 17 then (3 : Int32) else if j = 65 + 24 * y + 16 then 2 else if j = 21 + 11 * y + 7 then 2 else sM y j) = sM (y + 1) j
  unfold sM
  by_cases a1 : j = 65 + 24 * y + 17
  · rw [if_pos a1, if_neg (by omega), if_neg (by omega), if_neg (by omega), if_neg (by omega), if_neg (by omega), if_pos (by omega)]
  · rw [if_neg a1]
    by_cases a2 : j = 65 + 24 * y + 16
    · rw [if_pos a2, if_neg (by omega), if_neg (by omega), if_neg (by omega), if_neg (by omega), if_pos (by omega)]
    · rw [if_neg a2]
      by_cases a3 : j = 21 + 11 * y + 7
      · rw [if_pos a3, if_neg (by omega), if_neg (by omega), if_neg (by omega), if_pos (by omega)]
      · rw [if_neg a3]
        have c1 : (21 ≤ j ∧ j < 21 + 11 * y ∧ (j - 21) % 11 = 7) = (21 ≤ j ∧ j < 21 + 11 * (y + 1) ∧ (j - 21) % 11 = 7) := propext ⟨fun h => by omega, fun h => by omega⟩
        have c2 : (65 ≤ j ∧ j < 65 + 24 * y ∧ (j - 65) % 24 = 16) = (65 ≤ j ∧ j < 65 + 24 * (y + 1) ∧ (j - 65) % 24 = 16) := propext ⟨fun h => by omega, fun h => by omega⟩
        have c3 : (65 ≤ j ∧ j < 65 + 24 * y ∧ (j - 65) % 24 = 17) = (65 ≤ j ∧ j < 65 + 24 * (y + 1) ∧ (j - 65) % 24 = 17) := propext ⟨fun h => by omega, fun h => by omega⟩
        simp only [c1, c2, c3]
section MO
variable {a : Nat} {K : MK} {R : MR} {n : Nat} {Q : MK → MR → MI → Nat → Prop}
theorem c_b135 (hA : IsModel K R a) {I0 : MI} (hQ : ∀ I, (∀ b, b ≠ a + 1 → I b = I0 b) → I (a + 1) = σ0 → Q K R I n) {kc ks : Nat} (hkc : kc ≤ 7) (hks : ks ≤ 16595) {X : Int32 → Nat → Nat → Nat → MK → MR → MI → Prop} (hX : ∀ (y : Int32) (kc ks n : Nat) (K : MK) (R : MR) (I : MI), w_X7_init_b135_body a Q X y kc ks n K R I → X y kc ks n K R I) : ∀ d y, y + d = 8 → ∀ I, (∀ b, b ≠ a + 1 → I b = I0 b) → I (a + 1) = sL y → X (nI y) kc ks n K R I := by
  intro d
  induction d with
  | zero =>
    intro y hy I hb hi
    have hy2 : y = 8 := by omega
    subst hy2
    refine hX _ _ _ _ _ _ _ ?_
    unfold w_X7_init_b135_body
    exact ⟨fun _ => ⟨hkc, hks, hQ I hb hi⟩, fun z => absurd (by decide) z⟩
  | succ d ih =>
    intro y hy I hb hi
    refine hX _ _ _ _ _ _ _ ?_
    unfold w_X7_init_b135_body
    refine ⟨fun z => absurd (show 8 ≤ y from by rw [ll_8 (by omega)] at z; exact z) (by omega), fun _ => ⟨hA.k, a + 1, hA.r0 _, hA.a0, ?_⟩⟩
    rw [show (13 : Int32) + nI y = nI (13 + y) from nI_add 13 y, ix_nI (by omega), nr_1]
    refine ⟨vp_in_nI (by omega) (by omega), ?_⟩
    rintro I8 rfl
    refine ih (y + 1) (by omega) _ (fun b hb' => by rw [upI_f hb']; exact hb b hb') ?_
    rw [upI_at, hi]
    funext k
    show (if k = 13 + y then (-5 : Int32) else sL y k) = sL (y + 1) k
    unfold sL
    by_cases e : k = 13 + y
    · rw [if_pos e, if_pos (by omega)]
    · rw [if_neg e]
      by_cases c : 13 ≤ k ∧ k < 13 + y
      · rw [if_pos c, if_pos (by omega)]
      · rw [if_neg c, if_neg (by omega)]
theorem c_b86 (hA : IsModel K R a) {I0 : MI} (hQ : ∀ I, (∀ b, b ≠ a + 1 → I b = I0 b) → I (a + 1) = σ0 → Q K R I n) {kc ks : Nat} (hkc : kc ≤ 7) (hks : ks ≤ 16595) {X : Int32 → Nat → Nat → Nat → MK → MR → MI → Prop} (hX : ∀ (y : Int32) (kc ks n : Nat) (K : MK) (R : MR) (I : MI), w_X7_init_b86_body a Q X y kc ks n K R I → X y kc ks n K R I) : ∀ d y, y + d = 4 → ∀ I, (∀ b, b ≠ a + 1 → I b = I0 b) → I (a + 1) = sM y → X (nI y) kc ks n K R I := by
  intro d
  induction d with
  | zero =>
    intro y hy I hb hi
    have hy2 : y = 4 := by omega
    subst hy2
    refine hX _ _ _ _ _ _ _ ?_
    unfold w_X7_init_b86_body
    refine ⟨fun _ => ?_, fun z => absurd (by decide) z⟩
    unfold w_X7_init_b135
    intro X135 hX135
    refine c_b135 hA hQ hkc hks hX135 8 0 rfl I hb ?_
    rw [hi]
    funext k
    unfold sL
    rw [if_neg (by omega)]
  | succ d ih =>
    intro y hy I hb hi
    refine hX _ _ _ _ _ _ _ ?_
    unfold w_X7_init_b86_body
    refine ⟨fun z => absurd (show 4 ≤ y from by rw [ll_4 (by omega)] at z; exact z) (by omega), fun _ => ⟨hA.k, a + 1, hA.r0 _, hkc, hks, ?_⟩⟩
    rw [ofM_l7]
    refine ⟨hA.a0, vp_in_nI (by omega) (by omega), ?_⟩
    rintro I19 rfl
    refine ⟨a + 1, hA.r0 _, hkc, hks, ?_⟩
    rw [ofT_l16]
    refine ⟨hA.a0, vp_in_nI (by omega) (by omega), ?_⟩
    rintro I28 rfl
    refine ⟨a + 1, hA.r0 _, hkc, hks, ?_⟩
    rw [ofT_l17]
    refine ⟨hA.a0, vp_in_nI (by omega) (by omega), ?_⟩
    rintro I37 rfl
    rw [ix_nI (by omega), ix_nI (by omega), ix_nI (by omega), nr_1]
    refine ih (y + 1) (by omega) _ (fun b hb' => by rw [upI_f hb', upI_f hb', upI_f hb']; exact hb b hb') ?_
    rw [upI_at, upI_at, upI_at]
    exact sM_step (by omega) hi
end MO
theorem c_X7 {a : Nat} {K : MK} {R : MR} {I : MI} {Q : MK → MR → MI → Nat → Prop} (hK : K a = some (.inr 7)) (hI : I a = fun _ => 0) (hQ : ∀ K' R' I', Blw a K R I K' R' I' → IsModel K' R' a → I' a = (fun _ => 0) → I' (a + 1) = σ0 → Q K' R' I' (a + 8)) : w_X7_init a K R I (a + 1) Q := by
  unfold w_X7_init
  refine ⟨by decide, by decide, ?_⟩
  rintro K39 rfl R40 rfl I41 rfl
  refine ⟨by rw [upK_o (by omega)]; exact hK, ?_⟩
  rintro R45 rfl
  refine ⟨by decide, by decide, ?_⟩
  rintro K46 rfl R47 rfl I48 rfl
  refine ⟨by simp (disch := omega) only [upK_o]; exact hK, ?_⟩
  rintro R52 rfl
  refine ⟨by decide, by decide, ?_⟩
  rintro K53 rfl R54 rfl I55 rfl
  refine ⟨by simp (disch := omega) only [upK_o]; exact hK, ?_⟩
  rintro R59 rfl
  refine ⟨by decide, by decide, ?_⟩
  rintro K60 rfl R61 rfl I62 rfl
  refine ⟨by simp (disch := omega) only [upK_o]; exact hK, ?_⟩
  rintro R66 rfl
  refine ⟨by decide, by decide, ?_⟩
  rintro K67 rfl R68 rfl I69 rfl
  refine ⟨by simp (disch := omega) only [upK_o]; exact hK, ?_⟩
  rintro R73 rfl
  refine ⟨by decide, by decide, ?_⟩
  rintro K74 rfl R75 rfl I76 rfl
  refine ⟨by simp (disch := omega) only [upK_o]; exact hK, ?_⟩
  rintro R80 rfl
  refine ⟨by decide, by decide, ?_⟩
  rintro K81 rfl R82 rfl I83 rfl
  refine ⟨by simp (disch := omega) only [upK_o]; exact hK, ?_⟩
  rintro R87 rfl
  obtain ⟨KK, eK⟩ : ∃ z, z = upK (upK (upK (upK (upK (upK (upK K (a + 1) (.inl (0, 2361))) (a + 1 + 1) (.inl (0, 2361))) (a + 1 + 1 + 1) (.inl (0, 9444))) (a + 1 + 1 + 1 + 1) (.inl (0, 2361))) (a + 1 + 1 + 1 + 1 + 1) (.inl (0, 60))) (a + 1 + 1 + 1 + 1 + 1 + 1) (.inl (0, 4))) (a + 1 + 1 + 1 + 1 + 1 + 1 + 1) (.inl (0, 4)) := ⟨_, rfl⟩
  rw [← eK]
  obtain ⟨RR, eR⟩ : ∃ z, z = upR (clR (upR (clR (upR (clR (upR (clR (upR (clR (upR (clR (upR (clR R (a + 1)) a 0 (a + 1)) (a + 1 + 1)) a 1 (a + 1 + 1)) (a + 1 + 1 + 1)) a 2 (a + 1 + 1 + 1)) (a + 1 + 1 + 1 + 1)) a 4 (a + 1 + 1 + 1 + 1)) (a + 1 + 1 + 1 + 1 + 1)) a 6 (a + 1 + 1 + 1 + 1 + 1)) (a + 1 + 1 + 1 + 1 + 1 + 1)) a 10 (a + 1 + 1 + 1 + 1 + 1 + 1)) (a + 1 + 1 + 1 + 1 + 1 + 1 + 1)) a 11 (a + 1 + 1 + 1 + 1 + 1 + 1 + 1) := ⟨_, rfl⟩
  rw [← eR]
  have hA : IsModel KK RR a := by
    subst eK eR
    refine ⟨?_, fun g => ?_, ?_, fun g => ?_, ?_, fun g => ?_, ?_, fun g => ?_, ?_, fun g => ?_, ?_, fun g => ?_, ?_, fun g => ?_, ?_⟩
    · simp (disch := omega) only [upK_o]; exact hK
    all_goals try (simp (disch := omega) only [upK_o, upK_s, upR_f, upR_k, upR_s, clR_o, Nat.add_assoc]; done)
    all_goals try (simp (disch := omega) only [upK_o, upK_s, upR_f, upR_k, upR_s, clR_o]; done)
  have hB : ∀ b, b < a → KK b = K b ∧ RR b = R b := fun b hb => by
    subst eK eR
    simp (disch := omega) only [upK_o, upR_f, clR_o, and_self]
  refine ⟨a + 1, hA.r0 _, hA.a0, ?_⟩
  rintro I91 rfl
  refine ⟨a + 1, hA.r0 _, hA.a0, ?_⟩
  rintro I95 rfl
  refine ⟨a + 1, hA.r0 _, hA.a0, ?_⟩
  rintro I99 rfl
  unfold w_X7_init_b86
  intro X hX
  refine c_b86 hA (I0 := _) (fun I' hb hi => hQ KK RR I' (fun b hb' => ⟨(hB b hb').1, (hB b hb').2, ?_⟩) hA ?_ hi) (by decide) (by decide) hX 4 0 rfl _ (fun b _ => rfl) ?_
  · rw [hb b (by omega)]
    simp (disch := omega) only [upI_f, clI_o]
  · rw [hb a (by omega)]
    simp (disch := omega) only [upI_f, clI_o]
    exact hI
  · rw [upI_at, upI_at, upI_at]
    simp (disch := omega) only [clI_o]
    rw [clI_s]
    funext k
    show (if k = 5 then (1 : Int32) else if k = 3 then 12 else if k = 1 then 4 else 0) = sM 0 k
    unfold sM
    by_cases a5 : k = 5
    · subst a5; rfl
    · rw [if_neg a5]
      by_cases a3 : k = 3
      · subst a3; rfl
      · rw [if_neg a3]
        by_cases a1 : k = 1
        · subst a1; rfl
        · rw [if_neg a1, if_neg a1, if_neg a3, if_neg a5, if_neg (by omega), if_neg (by omega), if_neg (by omega)]
/-! the first states agree -/
theorem b_ag : ∀ k, k < 161 → k ≠ 5 → iB0 (cof k).1 (cof k).2 = σ0 k := by decide +kernel
theorem b_cn : ∀ m, m < 4 → iB0 (cof (2361 + m)).1 (cof (2361 + m)).2 = nI (holdsN σ0 m) ∧ iB0 (cof (2365 + m)).1 (cof (2365 + m)).2 = nI (ansN σ0 m) ∧ iB0 (cof (2369 + m)).1 (cof (2369 + m)).2 = lonL σ0 m (ix (σ0 4)) := by decide +kernel
theorem σ0_4 : ix (σ0 4) = 0 := by decide +kernel
theorem inv_0 : InvS σ0 := by
  refine ⟨4, 0, by decide +kernel, by omega, by omega, by decide +kernel, by omega, ⟨0, by omega, by decide +kernel⟩, ⟨0, by omega, by decide +kernel⟩, fun k hk => Or.inl ?_, fun m hm => ⟨0, by omega, ?_, fun j hj => absurd hj (by omega)⟩, fun t ht => ⟨0, 2, by omega, ?_, by omega, by omega, ?_, fun j hj => absurd hj (by omega)⟩, fun q hq => absurd hq (by omega)⟩
  · have : ∀ k, k < 8 → σ0 (13 + k) = -5 := by decide +kernel
    exact this k hk
  · have : ∀ m, m < 4 → σ0 (21 + 11 * m + 0) = nI 0 := by decide +kernel
    exact this m hm
  · have : ∀ t, t < 4 → σ0 (65 + 24 * t + 19) = nI 0 := by decide +kernel
    exact this t ht
  · have : ∀ t, t < 4 → σ0 (65 + 24 * t + 16) = nI 2 := by decide +kernel
    exact this t ht
theorem rel_0 {I : MI} {b : Nat} (h : BuI I b 238) : RelB (rowB I b) σ0 := by
  have e : ∀ k, k < 2381 → rowB I b k = iB0 (cof k).1 (cof k).2 := fun k hk => by
    unfold rowB
    rw [h _ (cof_lt hk)]
  refine ⟨inv_0, Or.inl (by decide +kernel), ⟨?_, ?_⟩, ?_, ?_⟩
  · rw [σ0_4]
    intro k h1 h2 h3
    rw [e k (by omega)]
    exact b_ag k (by omega) h2
  · rw [σ0_4]
    intro q hq
    exact absurd hq (by omega)
  · rw [e 5 (by omega)]
    decide +kernel
  · intro m hm
    rw [e _ (by omega), e _ (by omega), e _ (by omega)]
    exact b_cn m hm
def S0 : St := (σ0, 0, σ0, 0, (fun _ => σ0), 0, fun _ => 0)
theorem ws_0 : WS S0 := by
  have h : WOK σ0 := fun q hq => by rw [σ0_4] at hq; exact absurd hq (by omega)
  exact ⟨h, fun _ => h, fun _ _ => h⟩
/-- the ghosts of the history's array -/
def gR (R : MR) (t : Nat) : MR := fun b k => if b = t + 715 ∧ k < 4 then (fun g => some (pastA t g)) else R b k
def gI (I : MI) (t : Nat) : MI := fun b k => if b = t + 715 ∧ k < 4 then nI k else I b k
theorem gR_o {R : MR} {t b : Nat} (h : b ≠ t + 715) : gR R t b = R b := by funext k; simp [gR, h]
theorem gI_o {I : MI} {t b : Nat} (h : b ≠ t + 715) : gI I t b = I b := by funext k; simp [gI, h]
theorem gs_0 {K : MK} {R : MR} {I : MI} {t : Nat} (hA : TgA K R t) (hP : TgP K R t 4) : GS K R I (gR R t) (gI I t) := by
  intro E n H hR
  have hKa : K (t + 715) = some (.inl (5, 4)) := hA.2.2.2.2.2.2.2.2.1
  refine hR.putA (H1 := H) hKa ?_ rfl (fun _ _ => rfl) (fun b hb => gI_o hb) (fun b hb => gR_o hb)
  have h2 : H[t + 715]? = some (arC E.2.1 5 4 (R (t + 715)) (I (t + 715))) := (hR.2 _ _ hKa).2
  rw [h2, arC_r E.2.1 (t := 5) rfl, arC_r E.2.1 (t := 5) rfl]
  refine congrArg (fun z => some (arrV (E.2.1 5) 4 z)) ?_
  funext j
  by_cases hj : j < 4
  · have e1 : gR R t (t + 715) j = fun g => some (pastA t g) := by simp [gR, hj]
    have e2 : gI I t (t + 715) j = nI j := by simp [gI, hj]
    rw [e1, e2, (hP j hj).1]
    show va_rf (some (t + 729 + 238 * j)) = va_rf (some (t + 729 + 238 * ix (nI j)))
    rw [ix_nI (by omega)]
  · have e1 : gR R t (t + 715) j = R (t + 715) j := by simp [gR, hj]
    have e2 : gI I t (t + 715) j = I (t + 715) j := by simp [gI, hj]
    rw [e1, e2]
theorem start_CT {K : MK} {R : MR} {I : MI} {t : Nat} (hA : TgA K R t) (hP : TgP K R t 4) (hI : TgI I t) : CT K (gR R t) t (gI I t) S0 := by
  have hA2 : TgA K (gR R t) t := hA.cg (fun _ _ _ => rfl) (fun b _ _ h => gR_o h)
  obtain ⟨h1, h2, h3, h4, h5, h6, h7, h8, h9, h10, h11⟩ := hA2
  obtain ⟨i1, i2, i3⟩ := hI
  have e2 : ∀ j, j < 4 → gI I t (t + 715) j = nI j := fun j hj => by simp [gI, hj]
  have it : gI I t t = fun _ => 0 := by rw [gI_o (by omega)]; exact i1
  refine ⟨⟨h1, h2, h3, h4, h5, h6, h7, h8, h9, h10, h11, fun i hi g => ?_, fun g hg => ?_⟩, ?_, ?_, Or.inl rfl, fun z => absurd rfl z, ⟨Nat.zero_le _, ?_⟩, fun j hj => ?_, fun i j hi hj hne => ?_, fun j hj => absurd hj (Nat.not_lt_zero _), Nat.zero_le _, ?_, fun i hi => absurd hi (Nat.not_lt_zero _)⟩
  · simp [gR, hi]
  · unfold pastA
    exact (hP _ hg).2.cg (fun b x y => ⟨rfl, gR_o (by omega)⟩)
  · show RelB _ σ0
    exact rel_0 (i2.cg (fun b x y => gI_o (by omega)))
  · rw [it]; rfl
  · rw [it]; rfl
  · rw [e2 j hj, ix_nI (by omega)]; exact hj
  · rw [e2 j hj, e2 i hi, ix_nI (by omega), ix_nI (by omega)]; exact hne
  · rw [gI_o (by omega), i3]; rfl
theorem start_RT {K : MK} {R : MR} {I : MI} {r : Nat} (hA : IsModel K R r) (h0 : I r = fun _ => 0) (h1 : I (r + 1) = σ0) : RT K R r I S0 := by
  refine ⟨hA, h1, ?_, Or.inl rfl, fun k _ z => absurd rfl z, ⟨Nat.zero_le _, ?_⟩, fun j hj => absurd hj (Nat.not_lt_zero _), Nat.zero_le _, ?_, fun i hi => absurd hi (Nat.not_lt_zero _)⟩
  · rw [h0]; rfl
  · rw [h0]; rfl
  · rw [h0]; rfl
/-- THE LAW, FROM ITS FIRST INSTRUCTION -/
theorem w_start {b L : Nat} {xs : Nat → Int32} {K : MK} {R : MR} {I : MI} {n : Nat} {Q : Prop} (hL : L < 2 ^ 31) (hQ : Q) : w_L_law b L xs K R I n Q := by
  unfold w_L_law
  refine ⟨by decide, by decide, ?_⟩
  rintro K1 rfl R1 rfl I1 rfl
  refine ⟨by decide, by decide, c_X6 (upK_s _ _ _) (clI_s _ _) (fun K2 R2 I2 b2 a2 p2 i2 => ?_)⟩
  refine ⟨by decide, by decide, ?_⟩
  rintro K3 rfl R3 rfl I3 rfl
  refine ⟨by decide, by decide, c_X7 (upK_s _ _ _) (clI_s _ _) (fun K4 R4 I4 b4 m4 z4 s4 => ?_)⟩
  have gK : ∀ b, b < n + 1681 → K4 b = K2 b := fun b hb => by rw [(b4 b hb).1, upK_o (by omega)]
  have gr : ∀ b, b < n + 1681 → R4 b = R2 b := fun b hb => by rw [(b4 b hb).2.1, clR_o (by omega)]
  have gi : ∀ b, b < n + 1681 → I4 b = I2 b := fun b hb => by rw [(b4 b hb).2.2, clI_o (by omega)]
  have A : TgA K4 R4 n := a2.cg (fun b x y => gK b (by omega)) (fun b x y _ => gr b (by omega))
  have P : TgP K4 R4 n 4 := p2.cg (fun b x y => ⟨gK b (by omega), gr b (by omega)⟩) (fun i hi => by rw [gr _ (by omega)])
  have J : TgI I4 n := i2.cg (fun b x y => gi b (by omega))
  have hC := start_CT A P J
  have hM : IsModel K4 (gR R4 n) (n + 1681) := by
    have e : gR R4 n (n + 1681) = R4 (n + 1681) := gR_o (by omega)
    obtain ⟨m1, m2, m3, m4, m5, m6, m7, m8, m9, m10, m11, m12, m13, m14, m15⟩ := m4
    exact ⟨m1, by rw [e]; exact m2, m3, by rw [e]; exact m4, m5, by rw [e]; exact m6, m7, by rw [e]; exact m8, m9, by rw [e]; exact m10, m11, by rw [e]; exact m12, m13, by rw [e]; exact m14, m15⟩
  refine ⟨gR R4 n, gI I4 n, gs_0 A P, law_loop (Nat.le_refl _) hL hC.1.k hM.k (by decide) (by decide) hQ ⟨S0, hC, start_RT hM (by rw [gI_o (by omega)]; exact z4) (by rw [gI_o (by omega)]; exact s4), ws_0⟩⟩
