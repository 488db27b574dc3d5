section SF
variable {K : MK} {R : MR} {I J : MI} {t r b : Nat} {S : St}
theorem bus5 {σ : Sr} (h : RelB (rowB I b) σ) : I b 5 = nI (ix (σ 4)) ∧ ix (σ 4) ≤ 200 := by
  obtain ⟨hA4, hA⟩ := h.1.A4
  have e := r_b_q (J := I) (b := b) (ρ := rowB I b)
  rw [stB_self] at e
  exact ⟨by rw [e, h.2.2.1.1 4 (by omega) (by omega) (by omega)]; exact hA4, hA⟩
theorem bus6 {σ : Sr} (h : RelB (rowB I b) σ) : I b 6 = σ 0 := by
  have e := r_b_tk (J := I) (b := b) (ρ := rowB I b)
  rw [stB_self] at e
  rw [e, h.2.2.1.1 0 (by omega) (by omega) (by omega)]
def mixS (n : Nat) (f σ : Sr) : Sr := fun k => if k < n then f k else σ k
theorem mixS_0 (f σ : Sr) : mixS 0 f σ = σ := by funext k; unfold mixS; rw [if_neg (by omega)]
theorem mixS_up (f σ : Sr) (n : Nat) : (fun j => if j = n then f n else mixS n f σ j) = mixS (n + 1) f σ := by
  funext j
  unfold mixS
  by_cases e : j = n
  · subst e; rw [if_pos rfl, if_pos (by omega)]
  · rw [if_neg e]
    by_cases c : j < n
    · rw [if_pos c, if_pos (by omega)]
    · rw [if_neg c, if_neg (by omega)]
theorem mixS_eq {f σ : Sr} {n k : Nat} (h : k < n) : mixS n f σ k = f k := by unfold mixS; rw [if_pos h]
theorem stA_stA {a : Nat} {f g : Nat → Int32} : stA (stA I a f) a g = stA I a g := by
  funext c j
  by_cases h : c = a <;> simp [stA, h]
theorem r_undo22 {Q : Int32 → MI → Prop} {c : Nat} (hM : IsModel K R r) (hc : c < 4) (h3 : I r 3 = nI c) (h : Q (nI c) (stA I (r + 1) (mixS 2361 (fun k => I (r + 3) (2361 * c + k)) (I (r + 1))))) : w_X7_undo_b22 K R r Q 0 I := by
  have el : ∀ y : Nat, (2361 : Int32) * nI c + nI y = nI (2361 * c + y) := fun y => by
    rw [show (2361 : Int32) = nI 2361 from rfl, pk_mul, nI_add]
  unfold w_X7_undo_b22
  intro X hX
  have key : ∀ d y, y + d = 2361 → X (nI y) (stA I (r + 1) (mixS y (fun k => I (r + 3) (2361 * c + k)) (I (r + 1)))) := by
    intro d
    induction d with
    | zero =>
      intro y hy
      refine hX _ _ ?_
      have : y = 2361 := by omega
      subst this
      unfold w_X7_undo_b22_body
      simp (disch := omega) only [ll_2361, Nat.le_refl, true_implies, not_true, false_implies, and_true, stA_o, h3]
      exact ⟨hM, h⟩
    | succ d ih =>
      intro y hy
      refine hX _ _ ?_
      have hle : ¬ 2361 ≤ y := by omega
      have ih1 := ih (y + 1) (by omega)
      unfold w_X7_undo_b22_body
      simp (disch := omega) only [ll_2361, hle, true_implies, not_true, not_false_iff, false_implies, and_true, true_and, forall_eq, stA_o, h3, el, vpT, ix_nI, nr_1, up_A]
      rw [mixS_up (fun k => I (r + 3) (2361 * c + k))]
      exact ⟨hM, ih1⟩
  have := key 2361 0 (by omega)
  rw [mixS_0, stA_self] at this
  exact this
theorem r_keep {Q : Int32 → MI → Prop} (hM : IsModel K R r) (h : Q (I (r + 1) 0) (upI (stA I (r + 4) (mixS 2361 (I (r + 1)) (I (r + 4)))) r 5 1)) : w_X7_keep K R r I Q := by
  unfold w_X7_keep w_X7_keep_b2
  intro X hX
  have key : ∀ d y, y + d = 2361 → X (nI y) (stA I (r + 4) (mixS y (I (r + 1)) (I (r + 4)))) := by
    intro d
    induction d with
    | zero =>
      intro y hy
      refine hX _ _ ?_
      have : y = 2361 := by omega
      subst this
      unfold w_X7_keep_b2_body
      simp (disch := omega) only [ll_2361, Nat.le_refl, true_implies, not_true, false_implies, and_true, forall_eq]
      rw [upI_f (by omega), stA_o (by omega)]
      exact ⟨hM, h⟩
    | succ d ih =>
      intro y hy
      refine hX _ _ ?_
      have hle : ¬ 2361 ≤ y := by omega
      have ih1 := ih (y + 1) (by omega)
      unfold w_X7_keep_b2_body
      simp (disch := omega) only [ll_2361, hle, true_implies, not_true, not_false_iff, false_implies, and_true, true_and, forall_eq, stA_o, vpT, ix_nI, nr_1, up_A]
      rw [mixS_up]
      exact ⟨hM, ih1⟩
  have := key 2361 0 (by omega)
  rw [mixS_0, stA_self] at this
  exact this
theorem r_rest16 {Q : Int32 → MI → Prop} (hM : IsModel K R r) (h : Q (I (r + 4) 0) (stA I (r + 1) (mixS 2361 (I (r + 4)) (I (r + 1))))) : w_X7_restore_b16 K R r Q 0 I := by
  unfold w_X7_restore_b16
  intro X hX
  have key : ∀ d y, y + d = 2361 → X (nI y) (stA I (r + 1) (mixS y (I (r + 4)) (I (r + 1)))) := by
    intro d
    induction d with
    | zero =>
      intro y hy
      refine hX _ _ ?_
      have : y = 2361 := by omega
      subst this
      unfold w_X7_restore_b16_body
      simp (disch := omega) only [ll_2361, Nat.le_refl, true_implies, not_true, false_implies, and_true, stA_at, mixS_eq]
      exact ⟨hM, h⟩
    | succ d ih =>
      intro y hy
      refine hX _ _ ?_
      have hle : ¬ 2361 ≤ y := by omega
      have ih1 := ih (y + 1) (by omega)
      unfold w_X7_restore_b16_body
      simp (disch := omega) only [ll_2361, hle, true_implies, not_true, not_false_iff, false_implies, and_true, true_and, forall_eq, stA_o, vpT, ix_nI, nr_1, up_A]
      rw [mixS_up]
      exact ⟨hM, ih1⟩
  have := key 2361 0 (by omega)
  rw [mixS_0, stA_self] at this
  exact this
theorem r_aside {Q : MI → Prop} (hM : IsModel K R r) (h : Q (stA I (r + 2) (mixS 2361 (I (r + 1)) (I (r + 2))))) : w_X7_putAside K R r I Q := by
  unfold w_X7_putAside w_X7_putAside_b2
  intro X hX
  have key : ∀ d y, y + d = 2361 → X (nI y) (stA I (r + 2) (mixS y (I (r + 1)) (I (r + 2)))) := by
    intro d
    induction d with
    | zero =>
      intro y hy
      refine hX _ _ ?_
      have : y = 2361 := by omega
      subst this
      unfold w_X7_putAside_b2_body
      simp (disch := omega) only [ll_2361, Nat.le_refl, true_implies, not_true, false_implies, and_true]
      exact h
    | succ d ih =>
      intro y hy
      refine hX _ _ ?_
      have hle : ¬ 2361 ≤ y := by omega
      have ih1 := ih (y + 1) (by omega)
      unfold w_X7_putAside_b2_body
      simp (disch := omega) only [ll_2361, hle, true_implies, not_true, not_false_iff, false_implies, and_true, true_and, forall_eq, stA_o, vpT, ix_nI, nr_1, up_A]
      rw [mixS_up]
      exact ⟨hM, ih1⟩
  have := key 2361 0 (by omega)
  rw [mixS_0, stA_self] at this
  exact this
theorem r_back {Q : MI → Prop} (hM : IsModel K R r) (h : Q (stA I (r + 1) (mixS 2361 (I (r + 2)) (I (r + 1))))) : w_X7_putBack K R r I Q := by
  unfold w_X7_putBack w_X7_putBack_b2
  intro X hX
  have key : ∀ d y, y + d = 2361 → X (nI y) (stA I (r + 1) (mixS y (I (r + 2)) (I (r + 1)))) := by
    intro d
    induction d with
    | zero =>
      intro y hy
      refine hX _ _ ?_
      have : y = 2361 := by omega
      subst this
      unfold w_X7_putBack_b2_body
      simp (disch := omega) only [ll_2361, Nat.le_refl, true_implies, not_true, false_implies, and_true]
      exact h
    | succ d ih =>
      intro y hy
      refine hX _ _ ?_
      have hle : ¬ 2361 ≤ y := by omega
      have ih1 := ih (y + 1) (by omega)
      unfold w_X7_putBack_b2_body
      simp (disch := omega) only [ll_2361, hle, true_implies, not_true, not_false_iff, false_implies, and_true, true_and, forall_eq, stA_o, vpT, ix_nI, nr_1, up_A]
      rw [mixS_up]
      exact ⟨hM, ih1⟩
  have := key 2361 0 (by omega)
  rw [mixS_0, stA_self] at this
  exact this
/-- the live bus of the class, copied over -/
theorem CT.over (h : CT K R t I S) {τ : Sr} {I' : MI} (hf : ∀ c, c < t + 1 ∨ t + 1 + 238 ≤ c → I' c = I c) (hr : RelB (rowB I' (t + 1)) τ) : CT K R t I' (S.wσ τ) := by
  obtain ⟨h1, h2, h3, h4, h5, ⟨h6, h7⟩, h8, h9, h10, h11, h12, h13⟩ := h
  refine ⟨h1, hr, by rw [hf t (by omega)]; exact h3, h4, fun z => (h5 z).fr (fun a ha hb => hf a (by omega)), ⟨h6, by rw [hf t (by omega)]; exact h7⟩, by rw [hf _ (by omega)]; exact h8, by rw [hf _ (by omega)]; exact h9, fun j hj => ?_, h11, by rw [hf _ (by omega)]; exact h12, fun i hi => by rw [hf _ (by omega)]; exact h13 i hi⟩
  rw [hf _ (by omega)]
  exact (h10 j hj).fr (fun a ha hb => hf a (by unfold pastA at ha; omega))
def St.pop (S : St) (τ : Sr) : St := (τ, S.kp, S.κ, S.c - 1, S.hs, S.len, S.tx)
theorem p_undo {G : Int32 → Int32 → MI → Prop} (hd : t + 1681 ≤ r) (hC : CT K R t I S) (hR : RT K R r I S) (hW : WS S) (hG : ∀ v I', Rel2 K R t r I' → G v v I') : w_X6_undo K R t I (fun v I1 => w_X7_undo K R r I1 (fun v' I2 => G v v' I2)) := by
  have hT := hC.1
  have hRL : Rel2 K R t r I := ⟨S, hC, hR, hW⟩
  have hC0 := hC
  obtain ⟨g1, g2, h3, h4, h5, ⟨h6, h7⟩, h8, h9, h10, h11, h12, h13⟩ := hC
  have hR0 := hR
  obtain ⟨r1, r2, r3, r4, r5, ⟨r6, r7⟩, r8, r9, r10, r11⟩ := hR
  unfold w_X6_undo
  rw [h7]
  refine ⟨hT, ?_⟩
  rcases Nat.eq_zero_or_pos S.c with c0 | c1
  · rw [c0]
    refine c_idx0 (fun z => absurd z.1 (by decide)) ⟨fun z => absurd rfl z, fun _ => ?_⟩
    unfold w_X7_undo
    dsimp only
    rw [r7, c0]
    exact ⟨r1, fun z => absurd rfl z, fun _ => hG _ _ hRL⟩
  · rw [nI_sub1 c1]
    have hc : S.c - 1 < 4 := by omega
    have hg := h8 (S.c - 1) hc
    have hP : pastA t (I (t + 715) (S.c - 1)) = t + 729 + 238 * ix (I (t + 715) (S.c - 1)) := rfl
    have hrel := h10 (S.c - 1) (by omega)
    obtain ⟨b5, bA⟩ := bus5 hrel
    refine c_idx1 (n := 4) hc (by decide) ⟨fun _ => ⟨vp_in_nI hc (by decide), ?_⟩, fun z => absurd z z10⟩
    rw [ix_nI (by omega)]
    refine c_copy hT.o0 (hT.p4 hg) (by omega) b5 bA (fun I5 f1 f2 => ?_)
    intro I6 e6
    subst e6
    have hfr : FrC t I (upI I5 t 5 (nI (S.c - 1))) := fun a ha => by rw [upI_f (by omega), f1 a (by omega)]
    have hrow : ∀ k, k < 2381 → (k < 161 + 11 * ix (S.hs (S.c - 1) 4) ∨ 2361 ≤ k) → rowB (upI I5 t 5 (nI (S.c - 1))) (t + 1) k = rowB I (pastA t (I (t + 715) (S.c - 1))) k := fun k k1 k2 => by
      rw [rowB_cg (I := I5) (fun a ha hb => upI_f (by omega)) k1]
      exact f2 k k1 k2
    have ho : ∀ a, a ≠ t → (a < t + 1 ∨ t + 1 + 238 ≤ a) → upI I5 t 5 (nI (S.c - 1)) a = I a := fun a ha hb => by rw [upI_f ha]; exact f1 a hb
    have hR1 := hR0.ofC hd hfr
    have e5' : upI I5 t 5 (nI (S.c - 1)) t 5 = nI (S.c - 1) := upI_s
    have e3' : upI I5 t 5 (nI (S.c - 1)) t 3 = S.kp := by rw [upI_k (by omega), f1 t (by omega)]; exact h3
    generalize upI I5 t 5 (nI (S.c - 1)) = Y at *
    rw [e5']
    obtain ⟨s1, s2, s3, s4, s5, ⟨s6, s7⟩, s8, s9, s10, s11⟩ := hR1
    unfold w_X7_undo
    dsimp only
    rw [s7]
    refine ⟨r1, fun _ => ?_, fun z => absurd (nI_inj (b := 0) (by omega) (by omega) z) (by omega)⟩
    rw [nI_sub1 c1]
    intro I8 e8
    have z3 : I8 r 3 = nI (S.c - 1) := by rw [e8, upI_s]
    have zo : ∀ a, a ≠ r → I8 a = Y a := fun a ha => by rw [e8, upI_f ha]
    have zr : ∀ k, k ≠ 3 → I8 r k = Y r k := fun k hk => by rw [e8, upI_k hk]
    refine r_undo22 r1 hc z3 ?_
    have hτ : ∀ k, k < 2361 → mixS 2361 (fun k => I8 (r + 3) (2361 * (S.c - 1) + k)) (I8 (r + 1)) k = S.hs (S.c - 1) k := fun k hk => by
      rw [mixS_eq hk, zo _ (by omega)]
      exact s8 (S.c - 1) (by omega) k hk
    generalize mixS 2361 (fun k => I8 (r + 3) (2361 * (S.c - 1) + k)) (I8 (r + 1)) = τ at *
    have fo : ∀ a, a ≠ r → a ≠ r + 1 → stA I8 (r + 1) τ a = Y a := fun a ha hb => by rw [stA_o hb, zo a ha]
    have e715 : stA I8 (r + 1) τ (t + 715) = I (t + 715) := by rw [fo _ (by omega) (by omega), ho _ (by omega) (by omega)]
    have fI : ∀ a, t ≤ a → a < t + 1681 → a ≠ t → (a < t + 1 ∨ t + 1 + 238 ≤ a) → stA I8 (r + 1) τ a = I a := fun a h1 h2 h3 h4 => by rw [fo _ (by omega) (by omega), ho _ h3 h4]
    refine hG _ _ ⟨S.pop τ, ⟨g1, ?_, by rw [fo _ (by omega) (by omega)]; exact e3', h4, fun z => (h5 z).fr (fun a ha hb => fI a (by omega) (by omega) (by omega) (by omega)), ⟨by show S.c - 1 ≤ 4; omega, by rw [fo _ (by omega) (by omega)]; exact e5'⟩, by rw [e715]; exact h8, by rw [e715]; exact h9, fun j hj => ?_, h11, by rw [fI _ (by omega) (by omega) (by omega) (by omega)]; exact h12, fun i hi => by rw [fI _ (by omega) (by omega) (by omega) (by omega)]; exact h13 i hi⟩, ⟨r1, stA_s, by rw [stA_o (by omega), zr _ (by omega)]; exact s3, s4, fun k hk hz => by rw [fo _ (by omega) (by omega)]; exact s5 k hk hz, ⟨by show S.c - 1 ≤ 4; omega, by rw [stA_o (by omega)]; exact z3⟩, fun j hj k hk => by rw [fo _ (by omega) (by omega)]; exact s8 j (by have : j < S.c - 1 := hj; omega) k hk, s9, by rw [stA_o (by omega), zr _ (by omega)]; exact s10, fun i hi => by rw [fo _ (by omega) (by omega)]; exact s11 i hi⟩, (hW.2.2 (S.c - 1) (by omega)).cg bA hτ, hW.2.1, fun j hj => hW.2.2 j (by have : j < S.c - 1 := hj; omega)⟩
    · refine hrel.cg (fun k k1 k2 => ?_) hτ
      rw [rowB_cg (I := Y) (fun a ha hb => fo a (by omega) (by omega)) k1]
      exact hrow k k1 k2
    · have hj' : j < S.c - 1 := hj
      rw [e715]
      have hgj := h8 j (by omega)
      have hPj : pastA t (I (t + 715) j) = t + 729 + 238 * ix (I (t + 715) j) := rfl
      exact (h10 j (by omega)).fr (fun a ha hb => fI a (by omega) (by omega) (by omega) (by omega))
theorem p_keep {G : Int32 → Int32 → MI → Prop} (hd : t + 1681 ≤ r) (hC : CT K R t I S) (hR : RT K R r I S) (hW : WS S) (hG : ∀ v I', Rel2 K R t r I' → G v v I') : w_X6_keep K R t I (fun v I1 => w_X7_keep K R r I1 (fun v' I2 => G v v' I2)) := by
  have hT := hC.1
  have hC0 := hC
  obtain ⟨g1, g2, h3, h4, h5, ⟨h6, h7⟩, h8, h9, h10, h11, h12, h13⟩ := hC
  obtain ⟨b5, bA⟩ := bus5 g2
  unfold w_X6_keep
  refine ⟨hT, c_copy hT.o2 hT.o0 (by omega) b5 bA (fun I2 f1 f2 => ?_)⟩
  intro I3 e3
  subst e3
  have ho : ∀ a, a ≠ t → (a < t + 477 ∨ t + 477 + 238 ≤ a) → upI I2 t 3 1 a = I a := fun a ha hb => by rw [upI_f ha, f1 a hb]
  have hfr : FrC t I (upI I2 t 3 1) := fun a ha => ho a (by omega) (by omega)
  have hR1 := hR.ofC hd hfr
  have e6 : upI I2 t 3 1 (t + 1) 6 = S.σ 0 := by rw [ho _ (by omega) (by omega)]; exact bus6 g2
  have hC1 : CT K R t (upI I2 t 3 1) (S.σ, 1, S.σ, S.c, S.hs, S.len, S.tx) := by
    have e715 : upI I2 t 3 1 (t + 715) = I (t + 715) := ho _ (by omega) (by omega)
    refine ⟨g1, g2.fr (fun a ha hb => ho a (by omega) (by omega)), upI_s, Or.inr rfl, fun _ => ?_, ⟨h6, by rw [upI_k (by omega), f1 t (by omega)]; exact h7⟩, by rw [e715]; exact h8, by rw [e715]; exact h9, fun j hj => ?_, h11, by rw [ho _ (by omega) (by omega)]; exact h12, fun i hi => by rw [ho _ (by omega) (by omega)]; exact h13 i hi⟩
    · refine g2.cg (fun k hk hk2 => ?_) (fun _ _ => rfl)
      rw [← f2 k hk hk2]
      exact rowB_cg (fun a ha hb => upI_f (by omega)) hk
    · rw [e715]
      have hg := h8 j (by have : j < S.c := hj; omega)
      have hPj : pastA t (I (t + 715) j) = t + 729 + 238 * ix (I (t + 715) j) := rfl
      exact (h10 j hj).fr (fun a ha hb => ho a (by omega) (by omega))
  rw [e6]
  generalize upI I2 t 3 1 = Y at *
  obtain ⟨s1, s2, s3, s4, s5, ⟨s6, s7⟩, s8, s9, s10, s11⟩ := hR1
  refine r_keep s1 ?_
  rw [s2]
  have hy : ∀ a, a ≠ r → a ≠ r + 4 → upI (stA Y (r + 4) (mixS 2361 S.σ (Y (r + 4)))) r 5 1 a = Y a := fun a ha hb => by rw [upI_f ha, stA_o hb]
  refine hG _ _ ⟨(S.σ, 1, S.σ, S.c, S.hs, S.len, S.tx), hC1.ofR hd (fun a ha => hy a (by omega) (by omega)), ⟨s1, by rw [hy _ (by omega) (by omega)]; exact s2, upI_s, Or.inr rfl, fun k hk _ => ?_, ⟨s6, by rw [upI_k (by omega), stA_o (by omega)]; exact s7⟩, fun j hj k hk => by rw [hy _ (by omega) (by omega)]; exact s8 j hj k hk, s9, by rw [upI_k (by omega), stA_o (by omega)]; exact s10, fun i hi => by rw [hy _ (by omega) (by omega)]; exact s11 i hi⟩, hW.1, fun _ => hW.1, hW.2.2⟩
  rw [upI_f (by omega), stA_at, mixS_eq hk]
  rfl
theorem p_restore {G : Int32 → Int32 → MI → Prop} (hd : t + 1681 ≤ r) (hC : CT K R t I S) (hR : RT K R r I S) (hW : WS S) (hG : ∀ v I', Rel2 K R t r I' → G v v I') : w_X6_restore K R t I (fun v I1 => w_X7_restore K R r I1 (fun v' I2 => G v v' I2)) := by
  have hT := hC.1
  have hRL : Rel2 K R t r I := ⟨S, hC, hR, hW⟩
  have e3 := hC.2.2.1
  have e5 := hR.2.2.1
  have hM := hR.1
  unfold w_X6_restore
  rw [e3]
  refine ⟨hT, fun z => c_record hC (fun I2 hC2 f2 => ?_), fun z => ?_⟩
  · have hk := hC2.2.2.2.2.1 (by rw [rec_kp]; exact z)
    rw [rec_κ] at hk
    obtain ⟨b5, bA⟩ := bus5 hk
    refine c_copy hT.o0 hT.o2 (by omega) b5 bA (fun I3 f3 f4 => ?_)
    have hrel : RelB (rowB I3 (t + 1)) S.κ := hk.cg (fun k h1 h2 => f4 k h1 h2) (fun _ _ => rfl)
    have hC3 := hC2.over f3 hrel
    have hf3 : FrC t I I3 := fun a ha => (f3 a (by omega)).trans (f2 a ha)
    rw [bus6 hrel]
    have hR3 := hR.ofC hd hf3
    unfold w_X7_restore
    dsimp only
    rw [hR3.2.2.1]
    refine ⟨hM, fun _ => r_know hR3 (fun I8 h8 f8 => r_rest16 hM ?_), fun q => absurd q z⟩
    have hκ : ∀ k, k < 2361 → I8 (r + 4) k = S.κ k := fun k hk => by
      have := h8.2.2.2.2.1 k hk (by rw [rec_kp]; exact z)
      rw [rec_κ] at this
      exact this
    rw [hκ 0 (by omega)]
    have e : stA I8 (r + 1) (mixS 2361 (I8 (r + 4)) (I8 (r + 1))) = stS I8 r (mixS 2361 (I8 (r + 4)) (I8 (r + 1))) := rfl
    rw [e]
    refine hG _ _ ⟨S.rec'.wσ (mixS 2361 (I8 (r + 4)) (I8 (r + 1))), ?_, h8.w, hW.r.w ((hW.2.1 z).cg bA (fun k hk => by rw [mixS_eq hk]; exact hκ k hk))⟩
    have hfr : FrR r I3 (stS I8 r (mixS 2361 (I8 (r + 4)) (I8 (r + 1)))) := f8.trans FrR_stS
    have hC4 := hC3.ofR hd hfr
    obtain ⟨q1, q2, q3⟩ := hC4
    exact ⟨q1, q2.cg (fun _ _ _ => rfl) (fun k hk => by rw [show (S.rec'.wσ (mixS 2361 (I8 (r + 4)) (I8 (r + 1)))).σ = mixS 2361 (I8 (r + 4)) (I8 (r + 1)) from rfl, mixS_eq hk]; exact hκ k hk), q3⟩
  · unfold w_X7_restore
    dsimp only
    rw [e5]
    exact ⟨hM, fun q => absurd z q, fun _ => hG _ _ hRL⟩
end SF
