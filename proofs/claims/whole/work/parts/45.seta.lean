def St.wσ (S : St) (τ : Sr) : St := (τ, S.2)
/-- where the questions can be -/
def WOK (σ : Sr) : Prop := ∀ q, q < ix (σ 4) → σ (161 + 11 * q + 4) = 0 ∨ σ (161 + 11 * q + 4) = 1 ∨ σ (161 + 11 * q + 4) = 2 ∨ σ (161 + 11 * q + 4) = 3 ∨ σ (161 + 11 * q + 4) = 4
def WS (S : St) : Prop := WOK S.σ ∧ (S.kp ≠ 0 → WOK S.κ) ∧ ∀ j, j < S.c → WOK (S.hs j)
theorem WOK.cg {σ τ : Sr} (h : WOK σ) (hA : ix (σ 4) ≤ 200) (hc : ∀ k, k < 2361 → τ k = σ k) : WOK τ := by
  intro q hq
  rw [hc 4 (by omega)] at hq
  rw [hc _ (by omega)]
  exact h q hq
theorem WOK.s1 {σ : Sr} (h : WOK σ) {k : Nat} {x : Int32} (h1 : k < 161) (h4 : k ≠ 4) : WOK (su σ k x) := by
  intro q hq
  rw [su_n (by omega)] at hq
  rw [su_n (by omega)]
  exact h q hq
theorem WS.r {S : St} (h : WS S) : WS S.rec' := by
  obtain ⟨h1, h2, h3⟩ := h
  unfold St.rec'
  split
  · refine ⟨h1, h2, fun j hj => ?_⟩
    show WOK (if j = S.c then S.σ else S.hs j)
    have hj' : j < S.c + 1 := hj
    split
    · exact h1
    · exact h3 j (by omega)
  · rename_i hc
    refine ⟨h1, h2, fun j hj => ?_⟩
    show WOK (if j = 3 then S.σ else S.hs (j + 1))
    have hj' : j < 3 + 1 := hj
    split
    · exact h1
    · exact h3 (j + 1) (by omega)
theorem WS.w {S : St} (h : WS S) {τ : Sr} (hw : WOK τ) : WS (S.wσ τ) := ⟨hw, h.2⟩
def Rel2 (K : MK) (R : MR) (t r : Nat) (I : MI) : Prop := ∃ S, CT K R t I S ∧ RT K R r I S ∧ WS S
theorem Gt_or {n : Nat} (x : Int32) : (∃ m, m < n ∧ x = nI m) ∨ ∀ m, m < n → x ≠ nI m := by
  by_cases h : ∃ m, m < n ∧ x = nI m
  · exact Or.inl h
  · exact Or.inr (fun m hm e => h ⟨m, hm, e⟩)
section SA
variable {K : MK} {R : MR} {I J : MI} {t r b : Nat} {S : St}
theorem r_port1 {Q : Int32 → MI → Prop} {m : Nat} (hm : m < 4) (h : Q 1 I) : w_X7_isPort K R (nI m) I Q := ref_isPort (fun _ _ _ => h) (fun z => absurd rfl (z m hm))
theorem r_port0 {Q : Int32 → MI → Prop} {x : Int32} (hx : ∀ m, m < 4 → x ≠ nI m) (h : Q 0 I) : w_X7_isPort K R x I Q := ref_isPort (fun m hm e => absurd e (hx m hm)) (fun _ => h)
theorem r_in1 {Q : Int32 → MI → Prop} {x lo hi : Int32} (hx : lo ≤ x ∧ x ≤ hi) (h : Q 1 I) : w_X7_in K R x lo hi I Q := ref_in (fun _ _ => h) (fun z => absurd hx z)
theorem r_in0 {Q : Int32 → MI → Prop} {x lo hi : Int32} (hx : ¬ (lo ≤ x ∧ x ≤ hi)) (h : Q 0 I) : w_X7_in K R x lo hi I Q := ref_in (fun a c => absurd ⟨a, c⟩ hx) (fun _ => h)
theorem c_in {Q : Int32 → MI → Prop} {x lo hi : Int32} (h1 : lo ≤ x ∧ x ≤ hi → Q 1 I) (h2 : ¬ (lo ≤ x ∧ x ≤ hi) → Q 0 I) : w_X6_isBetween K R x lo hi I Q := by
  unfold w_X6_isBetween w_X6_isBetween_b14 w_X6_isBetween_b15
  refine ⟨fun c => ⟨bz0, h2 fun z => absurd z.1 (Int32.not_le.mpr c)⟩, fun c => ⟨fun d => ⟨bz0, h2 fun z => absurd z.2 (Int32.not_le.mpr d)⟩, fun d => ⟨bz1, h1 ⟨Int32.not_lt.mp c, Int32.not_lt.mp d⟩⟩⟩⟩
theorem c_in1 {Q : Int32 → MI → Prop} {x lo hi : Int32} (hx : lo ≤ x ∧ x ≤ hi) (h : Q 1 I) : w_X6_isBetween K R x lo hi I Q := c_in (fun _ => h) (fun z => absurd hx z)
theorem c_in0 {Q : Int32 → MI → Prop} {x lo hi : Int32} (hx : ¬ (lo ≤ x ∧ x ≤ hi)) (h : Q 0 I) : w_X6_isBetween K R x lo hi I Q := c_in (fun z => absurd z hx) (fun _ => h)
theorem idx_no {x : Int32} {n : Nat} (hn : n < 2 ^ 31) (hx : ∀ m, m < n → x ≠ nI m) : ¬ ((0 : Int32) ≤ x ∧ ¬ nI n ≤ x) := by
  intro z
  obtain ⟨j, hj, e⟩ := le_nI z.1 (Int32.le_of_lt (Int32.not_le.mp z.2)) hn
  rcases Nat.lt_or_ge j n with c | c
  · exact hx j c e
  · exact z.2 (by rw [e, show j = n by omega]; exact Int32.le_refl _)
theorem in_idx {x : Int32} {n : Nat} (hn : n < 2 ^ 31) : ((0 : Int32) ≤ x ∧ x ≤ nI n) ↔ ∃ m, m < n + 1 ∧ x = nI m := by
  constructor
  · intro z
    obtain ⟨j, hj, e⟩ := le_nI z.1 z.2 hn
    exact ⟨j, by omega, e⟩
  · rintro ⟨m, hm, e⟩
    rw [e]
    exact ⟨nI_pos' (by omega), (nI_leI (by omega) (by omega)).mpr (by omega)⟩
theorem c_idxN {Q : Int32 → MI → Prop} {x : Int32} {n : Nat} (hn : n < 2 ^ 31) (hx : ∀ m, m < n → x ≠ nI m) (h : Q 0 I) : w_X6_isIndex K R x (nI n) I Q := c_idx0 (idx_no hn hx) h
theorem c_masterNo {Q : Option Nat → MI → Prop} {x : Int32} (hx : ∀ m, m < 4 → x ≠ nI m) (h : Q none I) : w_X0_masterAt K R b x I Q := by
  unfold w_X0_masterAt w_X0_masterAt_b18
  exact c_idxN (n := 4) (by decide) hx ⟨fun _ => h, fun c => absurd rfl c⟩
theorem c_targetNo {Q : Option Nat → MI → Prop} {x : Int32} (hx : ∀ m, m < 4 → x ≠ nI m) (h : Q none I) : w_X0_targetAt K R b x I Q := by
  unfold w_X0_targetAt w_X0_targetAt_b18
  exact c_idxN (n := 4) (by decide) hx ⟨fun _ => h, fun c => absurd rfl c⟩
theorem CT.w {ρ' τ : Sr} (h : CT K R t I S) (hr : RelB ρ' τ) : CT K R t (stB I (t + 1) ρ') (S.wσ τ) := by
  obtain ⟨h1, h2, h3, h4, h5, ⟨h6, h7⟩, h8, h9, h10, h11, h12, h13⟩ := h
  have ho : ∀ a, a < t + 1 ∨ t + 1 + 238 ≤ a → stB I (t + 1) ρ' a = I a := fun a ha => by funext j; exact stB_o ha
  refine ⟨h1, hr.cg (fun k hk _ => rowB_stB hk) (fun _ _ => rfl), by rw [ho t (by omega)]; exact h3, h4, fun z => (h5 z).fr (fun a ha hb => ho a (by omega)), ⟨h6, by rw [ho t (by omega)]; exact h7⟩, by rw [ho _ (by omega)]; exact h8, by rw [ho _ (by omega)]; exact h9, fun j hj => ?_, h11, by rw [ho _ (by omega)]; exact h12, fun i hi => by rw [ho _ (by omega)]; exact h13 i hi⟩
  rw [ho _ (by omega)]
  exact (h10 j hj).fr (fun a ha hb => ho a (by unfold pastA at ha; omega))
theorem FrC_stB {ρ' : Sr} : FrC t I (stB I (t + 1) ρ') := fun a ha => by funext j; exact stB_o (by omega)
theorem CT.rd (h : CT K R t I S) {o s k a : Nat} (hs : slotO o s = some k) (ha : a = t + 1 + o) (h1 : k < 161 + 11 * ix (S.σ 4)) (h2 : k ≠ 5) (h3 : ¬ (161 ≤ k ∧ (k - 161) % 11 = 10)) : I a s = S.σ k := by
  have := stB_at (J := I) (ρ := rowB I (t + 1)) hs ha
  rw [stB_self] at this
  rw [this]
  exact h.2.1.2.2.1.1 k h1 h2 h3
theorem c_recset {Q : MI → Prop} {o s k a : Nat} {x : Int32} (h : CT K R t I S) (hs : slotO o s = some k) (ha : a = t + 1 + o) (hr : ∀ ρ, RelB ρ S.σ → RelB (su ρ k x) (su S.σ k x)) (hQ : ∀ I', CT K R t I' (S.rec'.wσ (su S.σ k x)) → FrC t I I' → Q I') : w_X6_record K R t I (fun I3 => Q (upI I3 a s x)) := by
  refine c_record h (fun I' hc hf => ?_)
  have e : upI I' a s x = stB I' (t + 1) (su (rowB I' (t + 1)) k x) := by
    have := up_at (J := I') (ρ := rowB I' (t + 1)) (x := x) hs ha
    rw [stB_self] at this
    exact this
  rw [e]
  have hR := hc.2.1
  rw [rec_σ] at hR
  exact hQ _ (hc.w (hr _ hR)) (hf.trans FrC_stB)
theorem RT.w {τ : Sr} (h : RT K R r I S) : RT K R r (stS I r τ) (S.wσ τ) := by
  obtain ⟨h1, h2, h3, h4, h5, ⟨h6, h7⟩, h8, h9, h10, h11⟩ := h
  have ho : ∀ a, a ≠ r + 1 → stS I r τ a = I a := fun a ha => by funext j; exact stS_o ha
  exact ⟨h1, by funext j; exact stS_s, by rw [ho _ (by omega)]; exact h3, h4, fun k hk hz => by rw [ho _ (by omega)]; exact h5 k hk hz, ⟨h6, by rw [ho _ (by omega)]; exact h7⟩, fun j hj k hk => by rw [ho _ (by omega)]; exact h8 j hj k hk, h9, by rw [ho _ (by omega)]; exact h10, fun i hi => by rw [ho _ (by omega)]; exact h11 i hi⟩
theorem FrR_stS {τ : Sr} : FrR r I (stS I r τ) := fun a ha => by funext j; exact stS_o (by omega)
theorem r_change {Q : Int32 → MI → Prop} {k : Nat} {x : Int32} (h : RT K R r I S) (hk : k < 2361) (h1 : S.σ k ≠ x → ∀ I', RT K R r I' (S.rec'.wσ (su S.σ k x)) → FrR r I I' → Q (S.σ k) I') (h2 : S.σ k = x → Q (-5) I) : w_X7_change K R r (nI k) x I Q := by
  have hM := h.1
  have hσ := h.2.1
  unfold w_X7_change
  rw [ix_nI (by omega), hσ]
  refine ⟨hM, vp_in_nI hk (by decide), fun c => r_know h (fun I' hc hf => ⟨vp_in_nI hk (by decide), fun I5 e5 => ?_⟩), h2⟩
  have hσ' := hc.2.1
  rw [rec_σ] at hσ'
  have e : upI I' (r + 1) k x = stS I' r (su S.σ k x) := by
    have := up_s (I := I') (r := r) (σ := I' (r + 1)) (k := k) (x := x)
    rw [stS_self, hσ'] at this
    exact this
  subst e5
  rw [e]
  exact h1 c _ hc.w (hf.trans FrR_stS)
theorem RT.ofC {I' : MI} (h : RT K R r I S) (hd : t + 1681 ≤ r) (hf : FrC t I I') : RT K R r I' S := h.fr (fun a ha => hf a (by omega))
theorem CT.ofR {I' : MI} (h : CT K R t I S) (hd : t + 1681 ≤ r) (hf : FrR r I I') : CT K R t I' S := h.fr (fun a ha hb => hf a (by omega))
theorem RelB.su1 {ρ σ : Sr} {k : Nat} {x : Int32} (h : RelB ρ σ) (hk : k ≠ 2 ∧ k ≠ 5 ∧ k < 161 ∧ ¬ isStr k) : RelB (su ρ k x) (su σ k x) := by
  obtain ⟨hS, hM, ⟨g1, g2⟩, hL, hC⟩ := h
  have hn : ∀ j, j ≠ k → su σ k x j = σ j := fun j hj => su_n hj
  have hne : ∀ j, isStr j → j ≠ k := fun j hj e => hk.2.2.2 (e ▸ hj)
  have e4 : su σ k x 4 = σ 4 := hn 4 (hne 4 (by simp [isStr]))
  refine ⟨hS.fr (fun j hj => hn j (hne j hj)) (fun q => Or.inl (hn _ (by omega))), by rw [hn 2 (by omega)]; exact hM, ⟨?_, ?_⟩, by rw [hn 5 (by omega), su_n (by omega)]; exact hL, hC.fr hS (fun j hj => su_n (by omega)) (hn 1 (hne 1 (by simp [isStr]))) e4 (fun j hj => hn _ (hne _ (by unfold isStr; omega))) (fun q hq => hn _ (by omega)) (fun q hq => by rw [hn _ (by omega)]) (fun q hq => hn _ (by omega))⟩
  · rw [e4]; exact g1.both
  · rw [e4]
    refine g2.fr (fun q hq ho => ⟨?_, su_n (by omega), hn _ (by omega)⟩)
    unfold OnT at ho ⊢
    rw [hn _ (by omega)] at ho
    exact ho
theorem p_setShare {G : Int32 → Int32 → MI → Prop} {x y : Int32} (hd : t + 1681 ≤ r) (hC : CT K R t I S) (hR : RT K R r I S) (hW : WS S) (hG : ∀ v I', Rel2 K R t r I' → G v v I') : w_X6_setShare K R t x y I (fun v I1 => w_X7_setShare K R r x y I1 (fun v' I2 => G v v' I2)) := by
  have hT := hC.1
  have hB := hT.o0
  have hRL : Rel2 K R t r I := ⟨S, hC, hR, hW⟩
  unfold w_X6_setShare
  refine ⟨hT, ?_⟩
  rcases Gt_or (n := 4) x with ⟨m, hm, rfl⟩ | hx
  · refine c_masterAt hB hm ?_
    simp only [← Nat.add_assoc, true_and, and_true, true_implies, forall_eq, forall_eq', not_true, not_false_iff, false_implies, Option.some.injEq, reduceCtorEq, exists_eq_left', implies_true, nl_1, nr_1, ix_nI, vpT, r_b_q, u_b_q, r_b_tk, u_b_tk, r_b_lt, u_b_lt, r_b_tm, u_b_tm, r_b_tt, u_b_tt, r_b_at, u_b_at, r_b_qt, u_b_qt, r_b_rt, u_b_rt, r_b_id, u_b_id, r_b_ov, u_b_ov, r_set0, u_set0, r_set1, u_set1, r_set2, u_set2, r_lent, u_lent, r_m1, u_m1, r_m2, u_m2, r_m3, u_m3, r_m4, u_m4, r_m5, u_m5, r_m6, u_m6, r_m7, u_m7, r_ml, u_ml, r_mr, u_mr, r_tc, u_tc, r_tn0, u_tn0, r_tn1, u_tn1, r_tn2, u_tn2, r_tl, u_tl, r_tr, u_tr, r_w0, u_w0, r_w1, u_w1, r_w2, u_w2, r_w3, u_w3, r_w4, u_w4, r_w5, u_w5, r_w6, u_w6, r_w7, u_w7, r_w8, u_w8, r_w9, u_w9, r_wa, u_wa]
    refine c_in (fun c => ⟨fun _ => ⟨hB.p2 hm, ?_⟩, fun z => absurd z z10⟩) (fun c => ⟨fun z => absurd rfl z, fun _ => ?_⟩)
    · have erd : I (t + 1 + 6 + 3 * m) 1 = S.σ (21 + 11 * m + 7) := hC.rd (so_m1 m hm) (by omega) (by omega) (by omega) (by omega)
      rw [erd]
      have ref : ∀ I1, RT K R r I1 S → (S.σ (21 + 11 * m + 7) ≠ y → ∀ I', RT K R r I' (S.rec'.wσ (su S.σ (21 + 11 * m + 7) y)) → FrR r I1 I' → G (S.σ (21 + 11 * m + 7)) (S.σ (21 + 11 * m + 7)) I') → (S.σ (21 + 11 * m + 7) = y → G (-5) (-5) I1) → w_X7_setShare K R r (nI m) y I1 (fun v' I2 => G (if S.σ (21 + 11 * m + 7) = y then -5 else S.σ (21 + 11 * m + 7)) v' I2) := by
        intro I1 hR1 g1 g2
        unfold w_X7_setShare w_X7_setShare_b35
        refine r_port1 hm ⟨fun _ => r_in1 c ⟨fun z => absurd z z10, fun _ => ?_⟩, fun z => absurd z z10⟩
        simp (disch := omega) only [← Nat.add_assoc, stS_s, up_s, true_and, and_true, true_implies, forall_eq, not_true, not_false_iff, false_implies, of_l0, of_l1, of_l2, of_l3, of_l4, of_l5, of_l6, of_l7, of_l8, of_l9, of_l10, ofM_l0, ofM_l1, ofM_l2, ofM_l3, ofM_l4, ofM_l5, ofM_l6, ofM_l7, ofM_l8, ofM_l9, ofM_l10, ofT_l16, ofT_l17, ofT_l18, ofT_l19, ofT_l20, of_n, ofM_n, ofT_n, nl_1, nl_8, nl_13, nl_16, nl_20, nl_2361, nr_1, ix_nI, vpT]
        refine ⟨hR1.1, r_change hR1 (by omega) (fun z I' a b => by rw [if_neg z]; exact g1 z I' a b) (fun z => by rw [if_pos z]; exact g2 z)⟩
      refine ⟨fun z => c_recset (a := t + 1 + 6 + 3 * m) (Q := fun I1 => w_X7_setShare K R r (nI m) y I1 (fun v' I2 => G (S.σ (21 + 11 * m + 7)) v' I2)) hC (so_m1 m hm) (by omega) (fun ρ hρ => hρ.su1 (by unfold isStr; omega)) (fun I' a b => ?_), fun z => ?_⟩
      · have := ref I' (hR.ofC hd b) (fun _ I2 e f => hG _ I2 ⟨_, a.ofR hd f, e, hW.r.w (hW.1.s1 (by omega) (by omega))⟩) (fun e => absurd e z)
        rw [if_neg z] at this
        exact this
      · have := ref I hR (fun e => absurd z e) (fun _ => hG _ I hRL)
        rw [if_pos z] at this
        exact this
    · unfold w_X7_setShare w_X7_setShare_b35
      exact r_port1 hm ⟨fun _ => r_in0 c ⟨fun _ => hG _ _ hRL, fun z => absurd rfl z⟩, fun z => absurd z z10⟩
  · refine c_masterNo hx ⟨fun _ => ?_, fun r4 z => by cases z⟩
    unfold w_X7_setShare
    exact r_port0 hx ⟨fun z => absurd rfl z, fun _ => hG _ _ hRL⟩
end SA
