section SD
variable {K : MK} {R : MR} {I J : MI} {t r b : Nat} {S : St}
def LF (σ : Sr) (z : Int32) : Prop := ∃ T' : Nat, z = nI T' ∧ 1 ≤ T' ∧ T' ≤ 8 ∧ ∀ k, k < 8 → T' ≤ k → σ (13 + k) = -5
theorem rr_set {Q : Int32 → MI → Prop} {w : Nat} {z : Int32} (hR : RT K R r I S) (hS : InvS S.σ) (hw : w < 3) (h1 : (stL 0).getD w 0 ≤ z ∧ z ≤ (stL 1).getD w 0 → (w = 0 → LF S.σ z) → w_X7_change K R r (nI (1 + w)) z I Q) (h4 : (stL 0).getD w 0 ≤ z ∧ z ≤ (stL 1).getD w 0 → w = 0 → ¬ LF S.σ z → Q (-4) I) (h0 : ¬ ((stL 0).getD w 0 ≤ z ∧ z ≤ (stL 1).getD w 0) → Q (-2) I) : w_X7_set K R r (nI w) z I Q := by
  have hM := hR.1
  have hin : (0 : Int32) ≤ nI w ∧ nI w ≤ nI 2 := (in_idx (by decide)).mpr ⟨w, hw, rfl⟩
  have b40 : ∀ hi lo : Int32, lo = (stL 0).getD w 0 → hi = (stL 1).getD w 0 → w_X7_set_b40 K R r (nI w) z Q hi lo I := by
    intro hi lo e1 e2
    subst e1 e2
    unfold w_X7_set_b40 w_X7_set_b46 w_X7_set_b64
    by_cases c : (stL 0).getD w 0 ≤ z ∧ z ≤ (stL 1).getD w 0
    · refine r_in1 c ⟨fun _ => ⟨fun c0 => ?_, fun c0 => ⟨hM, ?_⟩⟩, fun z => absurd z z10⟩
      · rw [nl_1]
        exact ⟨hM, h1 c (fun e => absurd (by rw [e]; rfl) c0)⟩
      · have w0 : w = 0 := nI_inj (b := 0) (by omega) (by omega) c0
        subst w0
        obtain ⟨j, hj, e⟩ := le_nI (n := 8) (Int32.le_trans (show (0 : Int32) ≤ 1 by decide) c.1) c.2 (by decide)
        have hj1 : 1 ≤ j := by
          have := c.1
          rw [e] at this
          exact (nI_leI (a := 1) (by omega) (by omega)).mp this
        have hlen : (¬ ∃ k, j ≤ k ∧ k < Tg_ S.σ ∧ S.σ (13 + k) ≠ -5) ↔ LF S.σ z := by
          obtain ⟨T, A, a1, a2, a3, a4, a5, a6, a7, a8, -⟩ := hS
          have hTT : Tg_ S.σ = T := ix_eq a1 (by omega)
          constructor
          · intro hn
            refine ⟨j, e, hj1, hj, fun k hk hk2 => ?_⟩
            rcases a8 k hk with q | ⟨q, -⟩
            · exact q
            · exact Classical.byContradiction fun q2 => hn ⟨k, hk2, by omega, q2⟩
          · rintro ⟨T', e', -, t8, hl⟩ ⟨k, k1, k2, k3⟩
            have : T' = j := nI_inj (by omega) (by omega) (by rw [← e', e])
            exact k3 (hl k (by omega) (by omega))
        rw [e]
        refine r_lentFrom hR hS hj (fun he => ⟨fun z => absurd z z10, fun _ => ?_⟩) (fun he => ⟨fun _ => ?_, fun z => absurd rfl z⟩)
        · exact h4 c rfl (fun q => hlen.mpr q he)
        · have := h1 c (fun _ => hlen.mp he)
          rw [e] at this
          exact ⟨hM, this⟩
    · exact r_in0 c ⟨fun z => absurd rfl z, fun _ => h0 c⟩
  unfold w_X7_set
  refine r_in1 hin ⟨fun z => absurd z z10, fun _ => ?_⟩
  unfold w_X7_set_b20
  have : w = 0 ∨ w = 1 ∨ w = 2 := by omega
  rcases this with rfl | rfl | rfl
  · exact ⟨fun _ => ⟨fun z => absurd (show nI 0 = 0 from rfl) z, fun _ => b40 _ _ rfl rfl⟩, fun z => absurd z (by decide)⟩
  · exact ⟨fun z => absurd (show nI 1 = 1 from rfl) z, fun _ => ⟨fun _ => ⟨fun z => absurd (show nI 1 = 1 from rfl) z, fun _ => b40 _ _ rfl rfl⟩, fun z => absurd z (by decide)⟩⟩
  · exact ⟨fun _ => ⟨fun _ => ⟨fun _ => b40 _ _ rfl rfl, fun z => absurd z (by decide)⟩, fun z => absurd z (by decide)⟩, fun z => absurd z (by decide)⟩
theorem p_set {G : Int32 → Int32 → MI → Prop} {x y : Int32} (hd : t + 1681 ≤ r) (hC : CT K R t I S) (hR : RT K R r I S) (hW : WS S) (hG : ∀ v I', Rel2 K R t r I' → G v v I') : w_X6_set K R t x y I (fun v I1 => w_X7_set K R r x y I1 (fun v' I2 => G v v' I2)) := by
  have hT := hC.1
  have hB := hT.o0
  have hS := hC.2.1.1
  have hRL : Rel2 K R t r I := ⟨S, hC, hR, hW⟩
  unfold w_X6_set w_X6_set_b28
  rcases Gt_or (n := 3) x with ⟨w, hw, rfl⟩ | hx
  · refine c_idx1 (n := 3) hw (by decide) ⟨fun z => absurd z z10, fun _ => ⟨vp_in_nI hw (by decide), vp_in_nI hw (by decide), ?_⟩⟩
    rw [ix_nI (by omega)]
    have b49 : (stL 0).getD w 0 ≤ y ∧ y ≤ (stL 1).getD w 0 → (w = 0 → LF S.σ y) → w_X6_set_b49 K R t (nI w) y (fun v I1 => w_X7_set K R r (nI w) y I1 (fun v' I2 => G v v' I2)) I := by
      intro c hl
      unfold w_X6_set_b49
      refine ⟨hT, vp_in_nI hw (by decide), ?_⟩
      rw [ix_nI (by omega)]
      simp (disch := omega) only [vpT, true_and, forall_eq]
      refine p_chg (W := fun I1 Q => w_X7_set K R r (nI w) y I1 Q) hd hC hR hW hG (so_set w hw) (by omega) (by omega) (by omega) (fun ρ hρ => ?_) (fun I1 Q hR1 hch => rr_set hR1 hS hw (fun _ _ => hch) (fun _ e z => absurd (hl e) z) (fun z => absurd c z))
      have : w = 0 ∨ w = 1 ∨ w = 2 := by omega
      rcases this with rfl | rfl | rfl
      · obtain ⟨T', e, t1, t8, hk⟩ := hl rfl
        rw [e]
        exact hρ.tags t1 t8 (fun k a c => hk k c a)
      · have h02 := c
        obtain ⟨j, hj, e⟩ := le_nI (n := 2) h02.1 h02.2 (by decide)
        refine hρ.manner ?_
        have : j = 0 ∨ j = 1 ∨ j = 2 := by omega
        rcases this with rfl | rfl | rfl
        · exact Or.inl e
        · exact Or.inr (Or.inl e)
        · exact Or.inr (Or.inr e)
      · exact hρ.su1 (by unfold isStr; omega)
    refine c_in (fun c => ⟨fun _ => ⟨fun c0 => b49 c (fun e => absurd (by rw [e]; rfl) c0), fun c0 => ⟨hT, ?_⟩⟩, fun z => absurd z z10⟩) (fun c => ⟨fun z => absurd rfl z, fun _ => rr_set hR hS hw (fun z => absurd z c) (fun z => absurd z c) (fun _ => hG _ _ hRL)⟩)
    have w0 : w = 0 := nI_inj (b := 0) (by omega) (by omega) c0
    subst w0
    obtain ⟨j, hj, e⟩ := le_nI (n := 8) (Int32.le_trans (show (0 : Int32) ≤ 1 by decide) c.1) c.2 (by decide)
    have hj1 : 1 ≤ j := by
      have := c.1
      rw [e] at this
      exact (nI_leI (a := 1) (by omega) (by omega)).mp this
    have hh := hiL_ok (σ := S.σ) (T' := j) (by omega) 8 (by omega)
    have h0 := c_highest (J := I) (b := t + 1) (ρ := rowB I (t + 1)) (σ := S.σ) (K := K) (R := R) (Q := fun v21 I20 => ((v21 < y → w_X6_set_b49 K R t (nI 0) y (fun v I1 => w_X7_set K R r (nI 0) y I1 (fun v' I2 => G v v' I2)) I20) ∧ (¬ v21 < y → w_X7_set K R r (nI 0) y I20 (fun v' I2 => G (-4) v' I2)))) hB (fun k hk => hC.2.1.2.2.1.1 _ (by omega) (by omega) (by omega)) ?_
    · rw [stB_self] at h0
      exact h0
    · rw [stB_self]
      refine ⟨fun z => b49 c (fun _ => ⟨j, e, hj1, hj, ?_⟩), fun z => rr_set hR hS hw (fun _ hl => absurd ?_ z) (fun _ _ _ => hG _ _ hRL) (fun q => absurd c q)⟩
      · rw [e] at z
        exact fun k hk hk2 => hh.mp z k hk hk2
      · obtain ⟨T', e', -, t8, hk⟩ := hl rfl
        have : T' = j := nI_inj (by omega) (by omega) (by rw [← e', e])
        subst this
        rw [e]
        exact hh.mpr hk
  · have hy' : ¬ ((0 : Int32) ≤ x ∧ x ≤ nI 2) := fun c => by
      obtain ⟨j, hj, e⟩ := (in_idx (by decide)).mp c
      exact hx j hj e
    refine c_idxN (n := 3) (by decide) hx ⟨fun _ => ?_, fun z => absurd rfl z⟩
    unfold w_X7_set w_X7_set_b46
    exact r_in0 hy' ⟨fun _ => hG _ _ hRL, fun z => absurd rfl z⟩
end SD
