/-! A NEW BUS -/
def BuA (K : MK) (R : MR) (a : Nat) : Prop := K a = some (.inr 0) ∧ (∀ g, R a 0 g = some (a + 1)) ∧ K (a + 1) = some (.inl (0, 3)) ∧ (∀ g, R a 1 g = some (a + 2)) ∧ K (a + 2) = some (.inl (0, 8)) ∧ (∀ g, R a 2 g = some (a + 3)) ∧ K (a + 3) = some (.inl (2, 4)) ∧ (∀ g, R a 3 g = some (a + 4)) ∧ K (a + 4) = some (.inl (3, 4)) ∧ (∀ g, R a 4 g = some (a + 5)) ∧ K (a + 5) = some (.inl (4, 200))
def BuM (K : MK) (R : MR) (a y : Nat) : Prop := ∀ i, i < y → (∀ g, R (a + 3) i g = some (a + 6 + 3 * i)) ∧ IsMaster K R (a + 6 + 3 * i)
def BuT (K : MK) (R : MR) (a y : Nat) : Prop := ∀ i, i < y → (∀ g, R (a + 4) i g = some (a + 18 + 5 * i)) ∧ IsTarget K R (a + 18 + 5 * i)
def BuQ (K : MK) (R : MR) (a y : Nat) : Prop := ∀ i, i < y → (∀ g, R (a + 5) i g = some (a + 38 + i)) ∧ IsQ K R (a + 38 + i)
def BuI (I : MI) (a n : Nat) : Prop := ∀ o, o < n → I (a + o) = iB0 o
theorem BuA.cg {K K' : MK} {R R' : MR} {a : Nat} (h : BuA K R a) (hf : ∀ b, a ≤ b → b < a + 6 → K' b = K b) (hr : R' a = R a) : BuA K' R' a := by
  obtain ⟨h1, h2, h3, h4, h5, h6, h7, h8, h9, h10, h11⟩ := h
  exact ⟨by rw [hf a (by omega) (by omega)]; exact h1, by rw [hr]; exact h2, by rw [hf _ (by omega) (by omega)]; exact h3, by rw [hr]; exact h4, by rw [hf _ (by omega) (by omega)]; exact h5, by rw [hr]; exact h6, by rw [hf _ (by omega) (by omega)]; exact h7, by rw [hr]; exact h8, by rw [hf _ (by omega) (by omega)]; exact h9, by rw [hr]; exact h10, by rw [hf _ (by omega) (by omega)]; exact h11⟩
theorem BuM.cg {K K' : MK} {R R' : MR} {a y : Nat} (h : BuM K R a y) (hf : ∀ b, a + 6 ≤ b → b < a + 6 + 3 * y → K' b = K b ∧ R' b = R b) (hr : ∀ i, i < y → R' (a + 3) i = R (a + 3) i) : BuM K' R' a y := fun i hi => ⟨by rw [hr i hi]; exact (h i hi).1, (h i hi).2.cg (fun b x y => hf b (by omega) (by omega))⟩
theorem BuT.cg {K K' : MK} {R R' : MR} {a y : Nat} (h : BuT K R a y) (hf : ∀ b, a + 18 ≤ b → b < a + 18 + 5 * y → K' b = K b ∧ R' b = R b) (hr : ∀ i, i < y → R' (a + 4) i = R (a + 4) i) : BuT K' R' a y := fun i hi => ⟨by rw [hr i hi]; exact (h i hi).1, (h i hi).2.cg (fun b x y => hf b (by omega) (by omega))⟩
theorem BuQ.cg {K K' : MK} {R R' : MR} {a y : Nat} (h : BuQ K R a y) (hf : ∀ b, a + 38 ≤ b → b < a + 38 + y → K' b = K b ∧ R' b = R b) (hr : ∀ i, i < y → R' (a + 5) i = R (a + 5) i) : BuQ K' R' a y := fun i hi => ⟨by rw [hr i hi]; exact (h i hi).1, (h i hi).2.cg (fun b x y => hf b (by omega) (by omega))⟩
theorem BuI.cg {I I' : MI} {a n : Nat} (h : BuI I a n) (hf : ∀ b, a ≤ b → b < a + n → I' b = I b) : BuI I' a n := fun o ho => by rw [hf _ (by omega) (by omega)]; exact h o ho
theorem iB0_m0 {i : Nat} (hi : i < 4) : iB0 (6 + 3 * i) = fun k => if k = 1 then 2 else if k = 7 then -5 else 0 := by
  funext k
  unfold iB0
  rw [if_neg (by omega), if_neg (by omega), if_neg (by omega), if_neg (by omega), if_pos (by omega), if_pos (by omega)]
theorem iB0_m1 {i : Nat} (hi : i < 4) {j : Nat} (hj : j = 1 ∨ j = 2) : iB0 (6 + 3 * i + j) = fun _ => 0 := by
  funext k
  unfold iB0
  rw [if_neg (by omega), if_neg (by omega), if_neg (by omega), if_neg (by omega), if_pos (by omega), if_neg (by omega)]
theorem iB0_t2 {i : Nat} (hi : i < 4) : iB0 (18 + 5 * i + 2) = fun k => if k = 0 then 2 else if k = 1 then 3 else 0 := by
  funext k
  unfold iB0
  rw [if_neg (by omega), if_neg (by omega), if_neg (by omega), if_neg (by omega), if_neg (by omega), if_pos (by omega), if_pos (by omega)]
theorem iB0_t1 {i : Nat} (hi : i < 4) {j : Nat} (hj : j = 0 ∨ j = 1 ∨ j = 3 ∨ j = 4) : iB0 (18 + 5 * i + j) = fun _ => 0 := by
  funext k
  unfold iB0
  rw [if_neg (by omega), if_neg (by omega), if_neg (by omega), if_neg (by omega), if_neg (by omega), if_pos (by omega), if_neg (by omega)]
theorem iB0_q {o : Nat} (ho : 38 ≤ o) : iB0 o = fun _ => 0 := by
  funext k
  unfold iB0
  rw [if_neg (by omega), if_neg (by omega), if_neg (by omega), if_neg (by omega), if_neg (by omega), if_neg (by omega)]
section BU
variable {a : Nat} {K0 : MK} {R0 : MR} {I0 : MI} {Q : MK → MR → MI → Nat → Prop}
theorem c_b140 (hQ : ∀ K R I, Blw a K0 R0 I0 K R I → IsBus K R a → BuI I a 238 → Q K R I (a + 238)) {X : Int32 → Nat → Nat → Nat → MK → MR → MI → Prop} (hX : ∀ (y : Int32) (kc ks n : Nat) (K : MK) (R : MR) (I : MI), w_X0_init_b140_body a Q X y kc ks n K R I → X y kc ks n K R I) : ∀ d y, y + d = 200 → ∀ kc ks n K R I, kc = 37 + y → ks = 403 + 11 * y → n = a + 38 + y → Blw a K0 R0 I0 K R I → BuA K R a → BuM K R a 4 → BuT K R a 4 → BuQ K R a y → BuI I a (38 + y) → X (nI y) kc ks n K R I := by
  intro d
  induction d with
  | zero =>
    intro y hy kc ks n K R I e1 e2 e3 hb hA hM hT hq hi
    have hy2 : y = 200 := by omega
    subst hy2
    refine hX _ _ _ _ _ _ _ ?_
    unfold w_X0_init_b140_body
    refine ⟨fun _ => ⟨by omega, by omega, ?_⟩, fun z => absurd (by decide) z⟩
    have e3 : n = a + 238 := e3
    rw [e3]
    obtain ⟨h1, h2, h3, h4, h5, h6, h7, h8, h9, h10, h11⟩ := hA
    exact hQ K R I hb ⟨h1, h2, h3, h4, h5, h6, h7, h8, h9, h10, h11, hM, hT, hq⟩ hi
  | succ d ih =>
    intro y hy kc ks n K R I e1 e2 e3 hb hA hM hT hq hi
    have hA0 := hA
    obtain ⟨h1, h2, h3, h4, h5, h6, h7, h8, h9, h10, h11⟩ := hA
    refine hX _ _ _ _ _ _ _ ?_
    unfold w_X0_init_b140_body
    refine ⟨fun z => absurd (show 200 ≤ y from by rw [ll_200 (by omega)] at z; exact z) (by omega), fun _ => ⟨h1, a + 5, h10 _, by omega, by omega, ?_⟩⟩
    rintro K6 rfl R7 rfl I8 rfl
    refine ⟨by omega, by omega, c_X3 ⟨by rw [upK_o (by omega)]; exact h11, vp_in_nI (by omega) (by omega), upK_s _ _ _, ?_⟩⟩
    rintro R20 rfl
    rw [ix_nI (by omega), nr_1]
    refine ih (y + 1) (by omega) _ _ _ _ _ _ (by omega) (by omega) (by omega) (hb.trans (fun b hb' => ⟨upK_o (by omega), by rw [upR_f (by omega), clR_o (by omega)], clI_o (by omega)⟩) (Nat.le_refl _)) (hA0.cg (fun b x z => upK_o (by omega)) (by rw [upR_f (by omega), clR_o (by omega)])) (hM.cg (fun b x z => ⟨upK_o (by omega), by rw [upR_f (by omega), clR_o (by omega)]⟩) (fun i hi => by rw [upR_f (by omega), clR_o (by omega)])) (hT.cg (fun b x z => ⟨upK_o (by omega), by rw [upR_f (by omega), clR_o (by omega)]⟩) (fun i hi => by rw [upR_f (by omega), clR_o (by omega)])) ?_ ?_
    · intro i hi'
      by_cases e : i = y
      · subst e
        exact ⟨fun g => by rw [upR_s, e3], by unfold IsQ; rw [← e3, upK_s]⟩
      · exact (hq.cg (K' := upK K n (.inr 3)) (R' := upR (clR R n) (a + 5) y n) (fun b x z => ⟨upK_o (by omega), by rw [upR_f (by omega), clR_o (by omega)]⟩) (fun i hi => by rw [upR_k (by omega), clR_o (by omega)])) i (by omega)
    · intro o ho
      by_cases e : o = 38 + y
      · subst e
        rw [show a + (38 + y) = n by omega, clI_s, iB0_q (by omega)]
      · rw [clI_o (by omega)]
        exact hi o (by omega)
theorem c_b114 (hQ : ∀ K R I, Blw a K0 R0 I0 K R I → IsBus K R a → BuI I a 238 → Q K R I (a + 238)) {X : Int32 → Nat → Nat → Nat → MK → MR → MI → Prop} (hX : ∀ (y : Int32) (kc ks n : Nat) (K : MK) (R : MR) (I : MI), w_X0_init_b114_body a Q X y kc ks n K R I → X y kc ks n K R I) : ∀ d y, y + d = 4 → ∀ kc ks n K R I, kc = 17 + 5 * y → ks = 283 + 30 * y → n = a + 18 + 5 * y → Blw a K0 R0 I0 K R I → BuA K R a → BuM K R a 4 → BuT K R a y → BuI I a (18 + 5 * y) → X (nI y) kc ks n K R I := by
  intro d
  induction d with
  | zero =>
    intro y hy kc ks n K R I e1 e2 e3 hb hA hM hT hi
    have hy2 : y = 4 := by omega
    subst hy2
    refine hX _ _ _ _ _ _ _ ?_
    unfold w_X0_init_b114_body
    refine ⟨fun _ => ?_, fun z => absurd (by decide) z⟩
    unfold w_X0_init_b140
    intro X140 hX140
    exact c_b140 hQ hX140 200 0 rfl kc ks n K R I (by omega) (by omega) (by omega) hb hA hM hT (fun i hi => absurd hi (by omega)) hi
  | succ d ih =>
    intro y hy kc ks n K R I e1 e2 e3 hb hA hM hT hi
    have hA0 := hA
    obtain ⟨h1, h2, h3, h4, h5, h6, h7, h8, h9, h10, h11⟩ := hA
    refine hX _ _ _ _ _ _ _ ?_
    unfold w_X0_init_b114_body
    refine ⟨fun z => absurd (show 4 ≤ y from by rw [ll_4 (by omega)] at z; exact z) (by omega), fun _ => ⟨h1, a + 4, h8 _, by omega, by omega, ?_⟩⟩
    rintro K6 rfl R7 rfl I8 rfl
    refine ⟨by omega, by omega, c_X5 (upK_s _ _ _) (clI_s _ _) (fun K' R' I' hb' hl i0 i1 i2 i3 i4 => ?_)⟩
    have gK : ∀ b, b < n → K' b = K b := fun b hbn => by rw [(hb' b hbn).1, upK_o (by omega)]
    have gR : ∀ b, b < n → R' b = R b := fun b hbn => by rw [(hb' b hbn).2.1, clR_o (by omega)]
    have gI : ∀ b, b < n → I' b = I b := fun b hbn => by rw [(hb' b hbn).2.2, clI_o (by omega)]
    refine ⟨by rw [gK _ (by omega)]; exact h9, vp_in_nI (by omega) (by omega), hl.1, ?_⟩
    rintro R20 rfl
    rw [ix_nI (by omega), nr_1]
    refine ih (y + 1) (by omega) _ _ _ _ _ _ (by omega) (by omega) (by omega) (hb.trans (fun b hb' => ⟨gK _ (by omega), by rw [upR_f (by omega), gR _ (by omega)], gI _ (by omega)⟩) (Nat.le_refl _)) (hA0.cg (fun b x z => gK _ (by omega)) (by rw [upR_f (by omega), gR _ (by omega)])) (hM.cg (fun b x z => ⟨gK _ (by omega), by rw [upR_f (by omega), gR _ (by omega)]⟩) (fun i hi => by rw [upR_f (by omega), gR _ (by omega)])) ?_ ?_
    · intro i hi'
      by_cases e : i = y
      · subst e
        rw [← e3]
        exact ⟨fun g => by rw [upR_s], hl.cg (fun b x z => ⟨rfl, by rw [upR_f (by omega)]⟩)⟩
      · exact (hT.cg (K' := K') (R' := upR R' (a + 4) y n) (fun b x z => ⟨gK _ (by omega), by rw [upR_f (by omega), gR _ (by omega)]⟩) (fun i hi => by rw [upR_k (by omega), gR _ (by omega)])) i (by omega)
    · intro o ho
      by_cases e : o < 18 + 5 * y
      · rw [gI _ (by omega)]
        exact hi o (by omega)
      · have hc : o = 18 + 5 * y ∨ o = 18 + 5 * y + 1 ∨ o = 18 + 5 * y + 2 ∨ o = 18 + 5 * y + 3 ∨ o = 18 + 5 * y + 4 := by omega
        rcases hc with c | c | c | c | c
        · rw [show a + o = n by omega, i0, c, show 18 + 5 * y = 18 + 5 * y + 0 from rfl, iB0_t1 (by omega) (by omega)]
        · rw [show a + o = n + 1 by omega, i1, c, iB0_t1 (by omega) (by omega)]
        · rw [show a + o = n + 2 by omega, i2, c, iB0_t2 (by omega)]
        · rw [show a + o = n + 3 by omega, i3, c, iB0_t1 (by omega) (by omega)]
        · rw [show a + o = n + 4 by omega, i4, c, iB0_t1 (by omega) (by omega)]
theorem c_b88 (hQ : ∀ K R I, Blw a K0 R0 I0 K R I → IsBus K R a → BuI I a 238 → Q K R I (a + 238)) {X : Int32 → Nat → Nat → Nat → MK → MR → MI → Prop} (hX : ∀ (y : Int32) (kc ks n : Nat) (K : MK) (R : MR) (I : MI), w_X0_init_b88_body a Q X y kc ks n K R I → X y kc ks n K R I) : ∀ d y, y + d = 4 → ∀ kc ks n K R I, kc = 5 + 3 * y → ks = 219 + 16 * y → n = a + 6 + 3 * y → Blw a K0 R0 I0 K R I → BuA K R a → BuM K R a y → BuI I a (6 + 3 * y) → X (nI y) kc ks n K R I := by
  intro d
  induction d with
  | zero =>
    intro y hy kc ks n K R I e1 e2 e3 hb hA hM hi
    have hy2 : y = 4 := by omega
    subst hy2
    refine hX _ _ _ _ _ _ _ ?_
    unfold w_X0_init_b88_body
    refine ⟨fun _ => ?_, fun z => absurd (by decide) z⟩
    unfold w_X0_init_b114
    intro X114 hX114
    exact c_b114 hQ hX114 4 0 rfl kc ks n K R I (by omega) (by omega) (by omega) hb hA hM (fun i hi => absurd hi (by omega)) hi
  | succ d ih =>
    intro y hy kc ks n K R I e1 e2 e3 hb hA hM hi
    have hA0 := hA
    obtain ⟨h1, h2, h3, h4, h5, h6, h7, h8, h9, h10, h11⟩ := hA
    refine hX _ _ _ _ _ _ _ ?_
    unfold w_X0_init_b88_body
    refine ⟨fun z => absurd (show 4 ≤ y from by rw [ll_4 (by omega)] at z; exact z) (by omega), fun _ => ⟨h1, a + 3, h6 _, by omega, by omega, ?_⟩⟩
    rintro K6 rfl R7 rfl I8 rfl
    refine ⟨by omega, by omega, c_X2 (upK_s _ _ _) (clI_s _ _) (fun K' R' I' hb' hl i0 i1 i2 => ?_)⟩
    have gK : ∀ b, b < n → K' b = K b := fun b hbn => by rw [(hb' b hbn).1, upK_o (by omega)]
    have gR : ∀ b, b < n → R' b = R b := fun b hbn => by rw [(hb' b hbn).2.1, clR_o (by omega)]
    have gI : ∀ b, b < n → I' b = I b := fun b hbn => by rw [(hb' b hbn).2.2, clI_o (by omega)]
    refine ⟨by rw [gK _ (by omega)]; exact h7, vp_in_nI (by omega) (by omega), hl.1, ?_⟩
    rintro R20 rfl
    rw [ix_nI (by omega), nr_1]
    refine ih (y + 1) (by omega) _ _ _ _ _ _ (by omega) (by omega) (by omega) (hb.trans (fun b hb' => ⟨gK _ (by omega), by rw [upR_f (by omega), gR _ (by omega)], gI _ (by omega)⟩) (Nat.le_refl _)) (hA0.cg (fun b x z => gK _ (by omega)) (by rw [upR_f (by omega), gR _ (by omega)])) ?_ ?_
    · intro i hi'
      by_cases e : i = y
      · subst e
        rw [← e3]
        exact ⟨fun g => by rw [upR_s], hl.cg (fun b x z => ⟨rfl, by rw [upR_f (by omega)]⟩)⟩
      · exact (hM.cg (K' := K') (R' := upR R' (a + 3) y n) (fun b x z => ⟨gK _ (by omega), by rw [upR_f (by omega), gR _ (by omega)]⟩) (fun i hi => by rw [upR_k (by omega), gR _ (by omega)])) i (by omega)
    · intro o ho
      by_cases e : o < 6 + 3 * y
      · rw [gI _ (by omega)]
        exact hi o (by omega)
      · have hc : o = 6 + 3 * y ∨ o = 6 + 3 * y + 1 ∨ o = 6 + 3 * y + 2 := by omega
        rcases hc with c | c | c
        · rw [show a + o = n by omega, i0, c, iB0_m0 (by omega)]
        · rw [show a + o = n + 1 by omega, i1, c, iB0_m1 (by omega) (by omega)]
        · rw [show a + o = n + 2 by omega, i2, c, iB0_m1 (by omega) (by omega)]
theorem c_b66 (hQ : ∀ K R I, Blw a K0 R0 I0 K R I → IsBus K R a → BuI I a 238 → Q K R I (a + 238)) {X : Int32 → Nat → Nat → Nat → MK → MR → MI → Prop} (hX : ∀ (y : Int32) (kc ks n : Nat) (K : MK) (R : MR) (I : MI), w_X0_init_b66_body a Q X y kc ks n K R I → X y kc ks n K R I) : ∀ d y, y + d = 8 → ∀ K R I, Blw a K0 R0 I0 K R I → BuA K R a → (∀ o, o < 6 → o ≠ 2 → I (a + o) = iB0 o) → I (a + 2) = (fun k => if k < y then -5 else 0) → X (nI y) 5 219 (a + 6) K R I := by
  intro d
  induction d with
  | zero =>
    intro y hy K R I hb hA hi h2
    have hy2 : y = 8 := by omega
    subst hy2
    refine hX _ _ _ _ _ _ _ ?_
    unfold w_X0_init_b66_body
    refine ⟨fun _ => ?_, fun z => absurd (by decide) z⟩
    unfold w_X0_init_b88
    intro X88 hX88
    refine c_b88 hQ hX88 4 0 rfl 5 219 (a + 6) K R I (by omega) (by omega) (by omega) hb hA (fun i hi => absurd hi (by omega)) (fun o ho => ?_)
    by_cases e : o = 2
    · subst e
      rw [h2]
      rfl
    · exact hi o (by omega) e
  | succ d ih =>
    intro y hy K R I hb hA hi h2
    have hA0 := hA
    obtain ⟨g1, g2, g3, g4, g5, g6, g7, g8, g9, g10, g11⟩ := hA
    refine hX _ _ _ _ _ _ _ ?_
    unfold w_X0_init_b66_body
    refine ⟨fun z => absurd (show 8 ≤ y from by rw [ll_8 (by omega)] at z; exact z) (by omega), fun _ => ⟨g1, a + 2, g4 _, g5, vp_in_nI (by omega) (by omega), ?_⟩⟩
    rintro I65 rfl
    rw [ix_nI (by omega), nr_1]
    refine ih (y + 1) (by omega) K R _ (fun b hb' => ⟨(hb b hb').1, (hb b hb').2.1, by rw [upI_f (by omega)]; exact (hb b hb').2.2⟩) hA0 (fun o ho h => by rw [upI_f (by omega)]; exact hi o ho h) ?_
    funext k
    rw [upI_at, h2]
    show (if k = y then (-5 : Int32) else if k < y then -5 else 0) = if k < y + 1 then -5 else 0
    by_cases e : k = y
    · subst e; rw [if_pos rfl, if_pos (by omega)]
    · rw [if_neg e]
      by_cases c : k < y
      · rw [if_pos c, if_pos (by omega)]
      · rw [if_neg c, if_neg (by omega)]
end BU
theorem c_X0 {a : Nat} {K : MK} {R : MR} {I : MI} {Q : MK → MR → MI → Nat → Prop} (hK : K a = some (.inr 0)) (hI : I a = fun _ => 0) (hQ : ∀ K' R' I', Blw a K R I K' R' I' → IsBus K' R' a → BuI I' a 238 → Q K' R' I' (a + 238)) : w_X0_init a K R I (a + 1) Q := by
  unfold w_X0_init
  refine ⟨by decide, by decide, ?_⟩
  rintro K67 rfl R68 rfl I69 rfl
  refine ⟨upK_s _ _ _, ?_⟩
  rintro I73 rfl I74 rfl I75 rfl
  refine ⟨by rw [upK_o (by omega)]; exact hK, ?_⟩
  rintro R77 rfl
  refine ⟨by decide, by decide, ?_⟩
  rintro K78 rfl R79 rfl I80 rfl
  refine ⟨by rw [upK_o (by omega), upK_o (by omega)]; exact hK, ?_⟩
  rintro R84 rfl
  refine ⟨by decide, by decide, ?_⟩
  rintro K85 rfl R86 rfl I87 rfl
  refine ⟨by rw [upK_o (by omega), upK_o (by omega), upK_o (by omega)]; exact hK, ?_⟩
  rintro R91 rfl
  refine ⟨by decide, by decide, ?_⟩
  rintro K92 rfl R93 rfl I94 rfl
  refine ⟨by rw [upK_o (by omega), upK_o (by omega), upK_o (by omega), upK_o (by omega)]; exact hK, ?_⟩
  rintro R98 rfl
  refine ⟨by decide, by decide, ?_⟩
  rintro K99 rfl R100 rfl I101 rfl
  refine ⟨by rw [upK_o (by omega), upK_o (by omega), upK_o (by omega), upK_o (by omega), upK_o (by omega)]; exact hK, ?_⟩
  rintro R105 rfl I106 rfl
  unfold w_X0_init_b66
  intro X66 hX66
  refine c_b66 (K0 := K) (R0 := R) (I0 := I) hQ hX66 8 0 rfl _ _ _ (fun b hb => ?_) ⟨?_, fun g => ?_, ?_, fun g => ?_, ?_, fun g => ?_, ?_, fun g => ?_, ?_, fun g => ?_, ?_⟩ (fun o ho h2 => ?_) ?_
  · simp (disch := omega) only [upK_o, upR_f, clR_o, upI_f, clI_o, and_self]
  · simp (disch := omega) only [upK_o]; exact hK
  all_goals try (simp (disch := omega) only [upK_o, upK_s, upR_f, upR_k, upR_s, clR_o, Nat.add_assoc]; done)
  all_goals try (simp (disch := omega) only [upK_o, upK_s, upR_f, upR_k, upR_s, clR_o]; done)
  · have hc : o = 0 ∨ o = 1 ∨ o = 3 ∨ o = 4 ∨ o = 5 := by omega
    rcases hc with rfl | rfl | rfl | rfl | rfl
    · show upI _ a 7 (-5) a = iB0 0
      rw [upI_at]
      funext k
      simp (disch := omega) only [upI_f, clI_o, hI]
      rfl
    · funext k
      simp (disch := omega) only [upI_f, clI_o, upI_at, clI_s]
      unfold iB0
      by_cases c2 : k = 2
      · subst c2; simp
      · by_cases c1 : k = 1
        · subst c1; simp
        · by_cases c0 : k = 0 <;> simp [c0, c1, c2]
    · rw [upI_f (by omega), clI_o (by omega), clI_o (by omega)]
      exact clI_s _ _
    · rw [upI_f (by omega), clI_o (by omega)]
      exact clI_s _ _
    · rw [upI_f (by omega)]
      exact clI_s _ _
  · rw [upI_f (by omega), clI_o (by omega), clI_o (by omega), clI_o (by omega)]
    exact clI_s _ _
