/-! A NEW TEXT, A NEW TAGBUS, A NEW MODEL -/
def TxA (K : MK) (R : MR) (a : Nat) : Prop := K a = some (.inr 4) ∧ (∀ g, R a 0 g = some (a + 1)) ∧ K (a + 1) = some (.inl (1, 60)) ∧ (∀ g, R a 2 g = some (a + 2)) ∧ K (a + 2) = some (.inl (4, 10))
def TxQ (K : MK) (R : MR) (a y : Nat) : Prop := ∀ i, i < y → (∀ g, R (a + 2) i g = some (a + 3 + i)) ∧ IsQ K R (a + 3 + i)
theorem TxA.cg {K K' : MK} {R R' : MR} {a : Nat} (h : TxA K R a) (hf : ∀ b, a ≤ b → b < a + 3 → K' b = K b) (hr : R' a = R a) : TxA K' R' a := by
  obtain ⟨h1, h2, h3, h4, h5⟩ := h
  exact ⟨by rw [hf a (by omega) (by omega)]; exact h1, by rw [hr]; exact h2, by rw [hf _ (by omega) (by omega)]; exact h3, by rw [hr]; exact h4, by rw [hf _ (by omega) (by omega)]; exact h5⟩
theorem TxQ.cg {K K' : MK} {R R' : MR} {a y : Nat} (h : TxQ K R a y) (hf : ∀ b, a + 3 ≤ b → b < a + 3 + y → K' b = K b ∧ R' b = R b) (hr : ∀ i, i < y → R' (a + 2) i = R (a + 2) i) : TxQ K' R' a y := fun i hi => ⟨by rw [hr i hi]; exact (h i hi).1, (h i hi).2.cg (fun b x y => hf b (by omega) (by omega))⟩
theorem c_b23 {a : Nat} {K0 : MK} {R0 : MR} {I0 : MI} {Q : MK → MR → MI → Nat → Prop} (hQ : ∀ K R I, Blw a K0 R0 I0 K R I → IsText K R a → I a = (fun _ => 0) → Q K R I (a + 13)) {X : Int32 → Nat → Nat → Nat → MK → MR → MI → Prop} (hX : ∀ (y : Int32) (kc ks n : Nat) (K : MK) (R : MR) (I : MI), w_X4_init_b23_body a Q X y kc ks n K R I → X y kc ks n K R I) : ∀ d y, y + d = 10 → ∀ kc ks n K R I, kc = 2 + y → ks = 70 + 11 * y → n = a + 3 + y → Blw a K0 R0 I0 K R I → TxA K R a → TxQ K R a y → I a = (fun _ => 0) → X (nI y) kc ks n K R I := by
  intro d
  induction d with
  | zero =>
    intro y hy kc ks n K R I e1 e2 e3 hb hA hq hi
    have hy2 : y = 10 := by omega
    subst hy2
    refine hX _ _ _ _ _ _ _ ?_
    unfold w_X4_init_b23_body
    refine ⟨fun _ => ⟨by omega, by omega, ?_⟩, fun z => absurd (by decide) z⟩
    have e3 : n = a + 13 := e3
    rw [e3]
    obtain ⟨h1, h2, h3, h4, h5⟩ := hA
    exact hQ K R I hb ⟨h1, h2, h3, h4, h5, hq⟩ hi
  | succ d ih =>
    intro y hy kc ks n K R I e1 e2 e3 hb hA hq hi
    have hA0 := hA
    obtain ⟨h1, h2, h3, h4, h5⟩ := hA
    refine hX _ _ _ _ _ _ _ ?_
    unfold w_X4_init_b23_body
    refine ⟨fun z => absurd (show 10 ≤ y from by rw [ll_10 (by omega)] at z; exact z) (by omega), fun _ => ⟨h1, a + 2, h4 _, by omega, by omega, ?_⟩⟩
    rintro K6 rfl R7 rfl I8 rfl
    refine ⟨by omega, by omega, c_X3 ⟨by rw [upK_o (by omega)]; exact h5, vp_in_nI (by omega) (by omega), upK_s _ _ _, ?_⟩⟩
    rintro R20 rfl
    rw [ix_nI (by omega), nr_1]
    refine ih (y + 1) (by omega) _ _ _ _ _ _ (by omega) (by omega) (by omega) (hb.trans (fun b hb' => ⟨upK_o (by omega), by rw [upR_f (by omega), clR_o (by omega)], clI_o (by omega)⟩) (Nat.le_refl _)) (hA0.cg (fun b x z => upK_o (by omega)) (by rw [upR_f (by omega), clR_o (by omega)])) ?_ ?_
    · intro i hi'
      by_cases e : i = y
      · subst e
        exact ⟨fun g => by rw [upR_s, e3], by unfold IsQ; rw [← e3, upK_s]⟩
      · exact (hq.cg (K' := upK K n (.inr 3)) (R' := upR (clR R n) (a + 2) y n) (fun b x z => ⟨upK_o (by omega), by rw [upR_f (by omega), clR_o (by omega)]⟩) (fun i hi => by rw [upR_k (by omega), clR_o (by omega)])) i (by omega)
    · rw [clI_o (by omega)]
      exact hi
theorem c_X4 {a : Nat} {K : MK} {R : MR} {I : MI} {Q : MK → MR → MI → Nat → Prop} (hK : K a = some (.inr 4)) (hI : I a = fun _ => 0) (hQ : ∀ K' R' I', Blw a K R I K' R' I' → IsText K' R' a → I' a = (fun _ => 0) → Q K' R' I' (a + 13)) : w_X4_init a K R I (a + 1) Q := by
  unfold w_X4_init
  refine ⟨by decide, by decide, ?_⟩
  rintro K22 rfl R23 rfl I24 rfl
  refine ⟨by rw [upK_o (by omega)]; exact hK, ?_⟩
  rintro R28 rfl
  refine ⟨by decide, by decide, ?_⟩
  rintro K29 rfl R30 rfl I31 rfl
  refine ⟨by rw [upK_o (by omega), upK_o (by omega)]; exact hK, ?_⟩
  rintro R35 rfl
  unfold w_X4_init_b23
  intro X hX
  refine c_b23 (K0 := K) (R0 := R) (I0 := I) hQ hX 10 0 rfl _ _ _ _ _ _ rfl rfl rfl (fun b hb => ?_) ⟨?_, fun g => ?_, ?_, fun g => ?_, ?_⟩ (fun i hi => absurd hi (by omega)) ?_
  · simp (disch := omega) only [upK_o, upR_f, clR_o, upI_f, clI_o, and_self]
  · simp (disch := omega) only [upK_o]; exact hK
  all_goals try (simp (disch := omega) only [upK_o, upK_s, upR_f, upR_k, upR_s, clR_o, Nat.add_assoc]; done)
  all_goals try (simp (disch := omega) only [upK_o, upK_s, upR_f, upR_k, upR_s, clR_o]; done)
  rw [clI_o (by omega), clI_o (by omega)]
  exact hI
/-- a TagBus without its history -/
def TgA (K : MK) (R : MR) (a : Nat) : Prop := K a = some (.inr 6) ∧ (∀ g, R a 0 g = some (a + 1)) ∧ IsBus K R (a + 1) ∧ (∀ g, R a 1 g = some (a + 239)) ∧ IsBus K R (a + 239) ∧ (∀ g, R a 2 g = some (a + 477)) ∧ IsBus K R (a + 477) ∧ (∀ g, R a 4 g = some (a + 715)) ∧ K (a + 715) = some (.inl (5, 4)) ∧ (∀ g, R a 6 g = some (a + 716)) ∧ IsText K R (a + 716)
def TgP (K : MK) (R : MR) (a y : Nat) : Prop := ∀ i, i < y → (∀ g, R (a + 715) i g = some (a + 729 + 238 * i)) ∧ IsBus K R (a + 729 + 238 * i)
def TgI (I : MI) (a : Nat) : Prop := I a = (fun _ => 0) ∧ BuI I (a + 1) 238 ∧ I (a + 716) = fun _ => 0
theorem TgA.cg {K K' : MK} {R R' : MR} {a : Nat} (h : TgA K R a) (hf : ∀ b, a ≤ b → b < a + 729 → K' b = K b) (hr : ∀ b, a ≤ b → b < a + 729 → b ≠ a + 715 → R' b = R b) : TgA K' R' a := by
  obtain ⟨h1, h2, h3, h4, h5, h6, h7, h8, h9, h10, h11⟩ := h
  have er := hr a (by omega) (by omega) (by omega)
  exact ⟨by rw [hf a (by omega) (by omega)]; exact h1, by rw [er]; exact h2, h3.cg (fun b x y => ⟨hf b (by omega) (by omega), hr b (by omega) (by omega) (by omega)⟩), by rw [er]; exact h4, h5.cg (fun b x y => ⟨hf b (by omega) (by omega), hr b (by omega) (by omega) (by omega)⟩), by rw [er]; exact h6, h7.cg (fun b x y => ⟨hf b (by omega) (by omega), hr b (by omega) (by omega) (by omega)⟩), by rw [er]; exact h8, by rw [hf _ (by omega) (by omega)]; exact h9, by rw [er]; exact h10, h11.cg (fun b x y => ⟨hf b (by omega) (by omega), hr b (by omega) (by omega) (by omega)⟩)⟩
theorem TgP.cg {K K' : MK} {R R' : MR} {a y : Nat} (h : TgP K R a y) (hf : ∀ b, a + 729 ≤ b → b < a + 729 + 238 * y → K' b = K b ∧ R' b = R b) (hr : ∀ i, i < y → R' (a + 715) i = R (a + 715) i) : TgP K' R' a y := fun i hi => ⟨by rw [hr i hi]; exact (h i hi).1, (h i hi).2.cg (fun b x y => hf b (by omega) (by omega))⟩
theorem TgI.cg {I I' : MI} {a : Nat} (h : TgI I a) (hf : ∀ b, a ≤ b → b < a + 717 → I' b = I b) : TgI I' a := by
  obtain ⟨h1, h2, h3⟩ := h
  exact ⟨by rw [hf _ (by omega) (by omega)]; exact h1, h2.cg (fun b x y => hf b (by omega) (by omega)), by rw [hf _ (by omega) (by omega)]; exact h3⟩
theorem c_b58 {a : Nat} {K0 : MK} {R0 : MR} {I0 : MI} {Q : MK → MR → MI → Nat → Prop} (hQ : ∀ K R I, Blw a K0 R0 I0 K R I → TgA K R a → TgP K R a 4 → TgI I a → Q K R I (a + 1681)) {X : Int32 → Nat → Nat → Nat → MK → MR → MI → Prop} (hX : ∀ (y : Int32) (kc ks n : Nat) (K : MK) (R : MR) (I : MI), w_X6_init_b58_body a Q X y kc ks n K R I → X y kc ks n K R I) : ∀ d y, y + d = 4 → ∀ kc ks n K R I, kc = 728 + 238 * y → ks = 8043 + 2618 * y → n = a + 729 + 238 * y → Blw a K0 R0 I0 K R I → TgA K R a → TgP K R a y → TgI I a → X (nI y) kc ks n K R I := by
  intro d
  induction d with
  | zero =>
    intro y hy kc ks n K R I e1 e2 e3 hb hA hP hi
    have hy2 : y = 4 := by omega
    subst hy2
    refine hX _ _ _ _ _ _ _ ?_
    unfold w_X6_init_b58_body
    refine ⟨fun _ => ⟨by omega, by omega, ?_⟩, fun z => absurd (by decide) z⟩
    rw [show n = a + 1681 by omega]
    exact hQ K R I hb hA hP hi
  | succ d ih =>
    intro y hy kc ks n K R I e1 e2 e3 hb hA hP hi
    have hA0 := hA
    obtain ⟨h1, h2, h3, h4, h5, h6, h7, h8, h9, h10, h11⟩ := hA
    refine hX _ _ _ _ _ _ _ ?_
    unfold w_X6_init_b58_body
    refine ⟨fun z => absurd (show 4 ≤ y from by rw [ll_4 (by omega)] at z; exact z) (by omega), fun _ => ⟨h1, a + 715, h8 _, by omega, by omega, ?_⟩⟩
    rintro K6 rfl R7 rfl I8 rfl
    refine ⟨by omega, by omega, c_X0 (upK_s _ _ _) (clI_s _ _) (fun K' R' I' hb' hl hl2 => ?_)⟩
    have gK : ∀ b, b < n → K' b = K b := fun b hbn => by rw [(hb' b hbn).1, upK_o (by omega)]
    have gR : ∀ b, b < n → R' b = R b := fun b hbn => by rw [(hb' b hbn).2.1, clR_o (by omega)]
    have gI : ∀ b, b < n → I' b = I b := fun b hbn => by rw [(hb' b hbn).2.2, clI_o (by omega)]
    refine ⟨by rw [gK _ (by omega)]; exact h9, vp_in_nI (by omega) (by omega), hl.1, ?_⟩
    rintro R20 rfl
    rw [ix_nI (by omega), nr_1]
    refine ih (y + 1) (by omega) _ _ _ _ _ _ (by omega) (by omega) (by omega) (hb.trans (fun b hb' => ⟨gK _ (by omega), by rw [upR_f (by omega), gR _ (by omega)], gI _ (by omega)⟩) (Nat.le_refl _)) (hA0.cg (fun b x z => gK _ (by omega)) (fun b x z w => by rw [upR_f (by omega), gR _ (by omega)])) ?_ (hi.cg (fun b x z => gI _ (by omega)))
    intro i hi'
    by_cases e : i = y
    · subst e
      rw [← e3]
      exact ⟨fun g => by rw [upR_s], hl.cg (fun b x z => ⟨rfl, by rw [upR_f (by omega)]⟩)⟩
    · exact (hP.cg (K' := K') (R' := upR R' (a + 715) y n) (fun b x z => ⟨gK _ (by omega), by rw [upR_f (by omega), gR _ (by omega)]⟩) (fun i hi => by rw [upR_k (by omega), gR _ (by omega)])) i (by omega)
theorem c_X6 {a : Nat} {K : MK} {R : MR} {I : MI} {Q : MK → MR → MI → Nat → Prop} (hK : K a = some (.inr 6)) (hI : I a = fun _ => 0) (hQ : ∀ K' R' I', Blw a K R I K' R' I' → TgA K' R' a → TgP K' R' a 4 → TgI I' a → Q K' R' I' (a + 1681)) : w_X6_init a K R I (a + 1) Q := by
  unfold w_X6_init
  refine ⟨by decide, by decide, ?_⟩
  rintro K22 rfl R23 rfl I24 rfl
  refine ⟨by decide, by decide, c_X0 (upK_s _ _ _) (clI_s _ _) (fun K1 R1 I1 b1 l1 j1 => ?_)⟩
  have k1 : K1 a = some (.inr 6) := by rw [(b1 a (by omega)).1, upK_o (by omega)]; exact hK
  have i1 : I1 a = fun _ => 0 := by rw [(b1 a (by omega)).2.2, clI_o (by omega)]; exact hI
  refine ⟨k1, ?_⟩
  rintro R34 rfl
  refine ⟨by decide, by decide, ?_⟩
  rintro K35 rfl R36 rfl I37 rfl
  refine ⟨by decide, by decide, c_X0 (upK_s _ _ _) (clI_s _ _) (fun K2 R2 I2 b2 l2 j2 => ?_)⟩
  have k2 : ∀ b, b < a + 239 → K2 b = K1 b := fun b hb => by rw [(b2 b (by omega)).1, upK_o (by omega)]
  have r2 : ∀ b, b < a + 239 → R2 b = upR R1 a 0 (a + 1) b := fun b hb => by rw [(b2 b (by omega)).2.1, clR_o (by omega)]
  have i2 : ∀ b, b < a + 239 → I2 b = I1 b := fun b hb => by rw [(b2 b (by omega)).2.2, clI_o (by omega)]
  refine ⟨by rw [k2 _ (by omega)]; exact k1, ?_⟩
  rintro R47 rfl
  refine ⟨by decide, by decide, ?_⟩
  rintro K48 rfl R49 rfl I50 rfl
  refine ⟨by decide, by decide, c_X0 (upK_s _ _ _) (clI_s _ _) (fun K3 R3 I3 b3 l3 j3 => ?_)⟩
  have k3 : ∀ b, b < a + 477 → K3 b = K2 b := fun b hb => by rw [(b3 b (by omega)).1, upK_o (by omega)]
  have r3 : ∀ b, b < a + 477 → R3 b = upR R2 a 1 (a + 239) b := fun b hb => by
    rw [(b3 b (by omega)).2.1, clR_o (by omega), show a + 1 + 238 = a + 239 from rfl]
  have i3 : ∀ b, b < a + 477 → I3 b = I2 b := fun b hb => by rw [(b3 b (by omega)).2.2, clI_o (by omega)]
  refine ⟨by rw [k3 _ (by omega), k2 _ (by omega)]; exact k1, ?_⟩
  rintro R60 rfl
  refine ⟨by decide, by decide, ?_⟩
  rintro K61 rfl R62 rfl I63 rfl
  refine ⟨by rw [upK_o (by omega), k3 _ (by omega), k2 _ (by omega)]; exact k1, ?_⟩
  rintro R67 rfl
  refine ⟨by decide, by decide, ?_⟩
  rintro K68 rfl R69 rfl I70 rfl
  refine ⟨by decide, by decide, c_X4 (upK_s _ _ _) (clI_s _ _) (fun K4 R4 I4 b4 l4 j4 => ?_)⟩
  have k4 : ∀ b, b < a + 715 → K4 b = K3 b := fun b hb => by rw [(b4 b (by omega)).1, upK_o (by omega), upK_o (by omega)]
  have k4' : K4 (a + 715) = some (.inl (5, 4)) := by rw [(b4 (a + 715) (by omega)).1, upK_o (by omega)]; exact upK_s _ _ _
  have r4 : ∀ b, b < a + 715 → R4 b = upR (upR R3 a 2 (a + 477)) a 4 (a + 715) b := fun b hb => by
    rw [(b4 b (by omega)).2.1, clR_o (by omega)]
    by_cases e : b = a
    · subst e
      funext k
      by_cases e4 : k = 4
      · subst e4
        exact upR_s.trans upR_s.symm
      · rw [upR_k e4, upR_k e4, clR_o (by omega)]
    · rw [upR_f e, upR_f e, clR_o (by omega)]
  have i4 : ∀ b, b < a + 715 → I4 b = I3 b := fun b hb => by rw [(b4 b (by omega)).2.2, clI_o (by omega), clI_o (by omega)]
  refine ⟨by rw [k4 _ (by omega), k3 _ (by omega), k2 _ (by omega)]; exact k1, ?_⟩
  rintro R80 rfl
  unfold w_X6_init_b58
  intro X hX
  have ra : ∀ k, k ≠ 6 → upR R4 a 6 (a + 716) a k = if k = 4 then (fun _ => some (a + 715)) else if k = 2 then (fun _ => some (a + 477)) else if k = 1 then (fun _ => some (a + 239)) else if k = 0 then (fun _ => some (a + 1)) else R1 a k := fun k hk => by
    rw [upR_k hk, r4 a (by omega)]
    by_cases e4 : k = 4
    · subst e4; rw [upR_s, if_pos rfl]
    · rw [upR_k e4, if_neg e4]
      by_cases e2 : k = 2
      · subst e2; rw [upR_s, if_pos rfl]
      · rw [upR_k e2, if_neg e2, r3 a (by omega)]
        by_cases e1 : k = 1
        · subst e1; rw [upR_s, if_pos rfl]
        · rw [upR_k e1, if_neg e1, r2 a (by omega)]
          by_cases e0 : k = 0
          · subst e0; rw [upR_s, if_pos rfl]
          · rw [upR_k e0, if_neg e0]
  have gR : ∀ b, b ≠ a → b < a + 715 → upR R4 a 6 (a + 716) b = R3 b := fun b hb hb2 => by rw [upR_f hb, r4 b hb2, upR_f hb, upR_f hb]
  refine c_b58 (K0 := K) (R0 := R) (I0 := I) hQ hX 4 0 rfl _ _ _ _ _ _ rfl rfl rfl (fun b hb => ?_) ⟨?_, fun g => ?_, ?_, fun g => ?_, ?_, fun g => ?_, ?_, fun g => ?_, ?_, fun g => ?_, ?_⟩ (fun i hi => absurd hi (by omega)) ⟨?_, ?_, ?_⟩
  · refine ⟨?_, ?_, ?_⟩
    · rw [k4 b (by omega), k3 b (by omega), k2 b (by omega), (b1 b (by omega)).1, upK_o (by omega)]
    · rw [gR b (by omega) (by omega), r3 b (by omega), upR_f (by omega), r2 b (by omega), upR_f (by omega), (b1 b (by omega)).2.1, clR_o (by omega)]
    · rw [i4 b (by omega), i3 b (by omega), i2 b (by omega), (b1 b (by omega)).2.2, clI_o (by omega)]
  · rw [k4 _ (by omega), k3 _ (by omega), k2 _ (by omega)]; exact k1
  · rw [ra 0 (by omega)]; rfl
  · exact l1.cg (fun b x y => ⟨by rw [k4 _ (by omega), k3 _ (by omega), k2 _ (by omega)], by rw [gR _ (by omega) (by omega), r3 _ (by omega), upR_f (by omega), r2 _ (by omega), upR_f (by omega)]⟩)
  · rw [ra 1 (by omega)]; rfl
  · exact l2.cg (fun b x y => ⟨by rw [k4 _ (by omega), k3 _ (by omega)], by rw [gR _ (by omega) (by omega), r3 _ (by omega), upR_f (by omega)]⟩)
  · rw [ra 2 (by omega)]; rfl
  · exact l3.cg (fun b x y => ⟨by rw [k4 _ (by omega)], by rw [gR _ (by omega) (by omega)]⟩)
  · rw [ra 4 (by omega)]; rfl
  · exact k4'
  · rw [upR_s]
  · exact l4.cg (fun b x y => ⟨rfl, by rw [upR_f (by omega)]⟩)
  · rw [i4 _ (by omega), i3 _ (by omega), i2 _ (by omega)]; exact i1
  · exact j1.cg (fun b x y => by rw [i4 _ (by omega), i3 _ (by omega), i2 _ (by omega)])
  · exact j4
