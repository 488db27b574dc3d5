/-- what holds of a row behind the law's steps; B bounds the tick -/
def Jn (B : Nat) (σ : Sr) : Prop := WOK σ ∧ JJ σ ∧ Tk σ ∧ ∃ n, n ≤ B ∧ σ 0 = nI n
theorem Jn.su {B : Nat} {σ : Sr} {k : Nat} {x : Int32} (h : Jn B σ) (hS : InvS σ) (hV : isV k) (hk : k < 161) (hx : -5 ≤ x) : Jn B (su σ k x) := by
  obtain ⟨h1, h2, h3, n, hn, e⟩ := h
  refine ⟨h1.s1 hk (by unfold isV at hV; omega), h2.su hS hk (fun z => by unfold isV at hV; unfold isJ at z; omega) hx, ?_, n, hn, ?_⟩
  · unfold Tk at h3 ⊢
    rw [su_n (by unfold isV at hV; omega), su_n (by unfold isV at hV; omega), su_n (by unfold isV at hV; omega), su_n (by unfold isV at hV; omega), su_n (by unfold isV at hV; omega)]
    exact h3
  · rw [su_n (by unfold isV at hV; omega)]; exact e
theorem Jn.mono {B B' : Nat} {σ : Sr} (h : Jn B σ) (hb : B ≤ B') : Jn B' σ := ⟨h.1, h.2.1, h.2.2.1, h.2.2.2.choose, Nat.le_trans h.2.2.2.choose_spec.1 hb, h.2.2.2.choose_spec.2⟩
theorem Jn.tick {B : Nat} {σ : Sr} (h : Jn B σ) (hS : InvS σ) : Jn (B + 1) (tickS σ) := by
  obtain ⟨h1, h2, h3, n, hn, e⟩ := h
  obtain ⟨t1, t2, t3, t4, t5⟩ := tick_P hS h2 h3
  exact ⟨tick_wok hS h1, t1, t2, n + 1, by omega, by rw [t3, e, nr_1]⟩
theorem Jn.tkN {B : Nat} {σ : Sr} (h : Jn B σ) (hS : InvS σ) : ∀ n, Jn (B + n) (tkN σ n)
  | 0 => h
  | n + 1 => (Jn.tkN h hS n).tick (tkN_inv hS n)
section KA
variable {K : MK} {R : MR} {I J : MI} {t B : Nat} {S : St} {Q : Int32 → MI → Prop}
theorem m5_nI (n : Nat) (h : n < 2 ^ 31) : (-5 : Int32) ≤ nI n := Int32.le_trans (by decide) (nI_pos' h)
theorem k_chg {o s k a : Nat} {y : Int32} (hC : CT K R t I S) (hJ : Jn B S.σ) (hG : ∀ v I' S', CT K R t I' S' → Jn B S'.σ → -5 ≤ v → Q v I') (hs : slotO o s = some k) (ha : a = t + 1 + o) (h1 : k < 161) (hV : isV k) (hr : ∀ ρ, RelB ρ S.σ → RelB (su ρ k y) (su S.σ k y)) (hy : -5 ≤ y) : (¬ I a s = y → w_X6_record K R t I (fun I3 => Q (I a s) (upI I3 a s y))) ∧ (I a s = y → Q (-5) I) := by
  have erd : I a s = S.σ k := hC.rd hs ha (by omega) (by unfold isV at hV; omega) (by omega)
  rw [erd]
  exact ⟨fun z => c_recset (a := a) (Q := fun I1 => Q (S.σ k) I1) hC hs ha hr (fun I' a' b => hG _ I' _ a' (hJ.su hC.2.1.1 hV h1 hy) (hJ.2.1.1 k hV)), fun z => hG _ _ _ hC hJ (by decide)⟩
theorem k_setShare {x y : Int32} (hC : CT K R t I S) (hJ : Jn B S.σ) (hG : ∀ v I' S', CT K R t I' S' → Jn B S'.σ → -5 ≤ v → Q v I') : w_X6_setShare K R t x y I Q := by
  have hT := hC.1
  have hB := hT.o0
  unfold w_X6_setShare
  refine ⟨hT, ?_⟩
  rcases Gt_or (n := 4) x with ⟨m, hm, rfl⟩ | hx
  · refine c_masterAt hB hm ?_
    simp only [← Nat.add_assoc, true_and, and_true, true_implies, forall_eq, forall_eq', not_true, not_false_iff, false_implies, Option.some.injEq, reduceCtorEq, exists_eq_left', implies_true, nl_1, nr_1, ix_nI, vpT, r_b_q, u_b_q, r_b_tk, u_b_tk, r_b_lt, u_b_lt, r_b_tm, u_b_tm, r_b_tt, u_b_tt, r_b_at, u_b_at, r_b_qt, u_b_qt, r_b_rt, u_b_rt, r_b_id, u_b_id, r_b_ov, u_b_ov, r_set0, u_set0, r_set1, u_set1, r_set2, u_set2, r_lent, u_lent, r_m1, u_m1, r_m2, u_m2, r_m3, u_m3, r_m4, u_m4, r_m5, u_m5, r_m6, u_m6, r_m7, u_m7, r_ml, u_ml, r_mr, u_mr, r_tc, u_tc, r_tn0, u_tn0, r_tn1, u_tn1, r_tn2, u_tn2, r_tl, u_tl, r_tr, u_tr, r_w0, u_w0, r_w1, u_w1, r_w2, u_w2, r_w3, u_w3, r_w4, u_w4, r_w5, u_w5, r_w6, u_w6, r_w7, u_w7, r_w8, u_w8, r_w9, u_w9, r_wa, u_wa]
    refine c_in (fun c => ⟨fun _ => ⟨hB.p2 hm, ?_⟩, fun z => absurd z z10⟩) (fun c => ⟨fun z => absurd rfl z, fun _ => hG _ _ _ hC hJ (by decide)⟩)
    exact k_chg hC hJ hG (so_m1 m hm) (by omega) (by omega) (by unfold isV; omega) (fun ρ hρ => hρ.su1 (by unfold isStr; omega)) (Int32.le_trans (by decide) c.1)
  · exact c_masterNo hx ⟨fun _ => hG _ _ _ hC hJ (by decide), fun r4 z => by cases z⟩
theorem k_setCell {x y z : Int32} (hC : CT K R t I S) (hJ : Jn B S.σ) (hG : ∀ v I' S', CT K R t I' S' → Jn B S'.σ → -5 ≤ v → Q v I') : w_X6_setCell K R t x y z I Q := by
  have hT := hC.1
  have hB := hT.o0
  unfold w_X6_setCell w_X6_setCell_b36
  refine ⟨hT, ?_⟩
  rcases Gt_or (n := 4) x with ⟨m, hm, rfl⟩ | hx
  · refine c_targetAt hB hm ?_
    simp only [← Nat.add_assoc, true_and, and_true, true_implies, forall_eq, forall_eq', not_true, not_false_iff, false_implies, Option.some.injEq, reduceCtorEq, exists_eq_left', implies_true, nl_1, nr_1, ix_nI, vpT, r_b_q, u_b_q, r_b_tk, u_b_tk, r_b_lt, u_b_lt, r_b_tm, u_b_tm, r_b_tt, u_b_tt, r_b_at, u_b_at, r_b_qt, u_b_qt, r_b_rt, u_b_rt, r_b_id, u_b_id, r_b_ov, u_b_ov, r_set0, u_set0, r_set1, u_set1, r_set2, u_set2, r_lent, u_lent, r_m1, u_m1, r_m2, u_m2, r_m3, u_m3, r_m4, u_m4, r_m5, u_m5, r_m6, u_m6, r_m7, u_m7, r_ml, u_ml, r_mr, u_mr, r_tc, u_tc, r_tn0, u_tn0, r_tn1, u_tn1, r_tn2, u_tn2, r_tl, u_tl, r_tr, u_tr, r_w0, u_w0, r_w1, u_w1, r_w2, u_w2, r_w3, u_w3, r_w4, u_w4, r_w5, u_w5, r_w6, u_w6, r_w7, u_w7, r_w8, u_w8, r_w9, u_w9, r_wa, u_wa]
    rcases Gt_or (n := 16) y with ⟨w, hw, rfl⟩ | hy
    · refine c_idx1 (n := 16) hw (by decide) ⟨fun z => absurd z z10, fun _ => c_in (fun c => ⟨fun _ => ⟨hB.p3 hm, vp_in_nI hw (by decide), ?_⟩, fun z => absurd z z10⟩) (fun c => ⟨fun z => absurd rfl z, fun _ => hG _ _ _ hC hJ (by decide)⟩)⟩
      rw [ix_nI (by omega)]
      simp (disch := omega) only [vpT, true_and]
      exact k_chg hC hJ hG (so_tc m hm w hw) (by omega) (by omega) (by unfold isV; omega) (fun ρ hρ => hρ.su1 (by unfold isStr; omega)) (Int32.le_trans (by decide) c.1)
    · exact c_idxN (n := 16) (by decide) hy ⟨fun _ => hG _ _ _ hC hJ (by decide), fun z => absurd rfl z⟩
  · exact c_targetNo hx ⟨fun _ => hG _ _ _ hC hJ (by decide), fun r4 z => by cases z⟩
theorem k_setTarget {x y z : Int32} (hC : CT K R t I S) (hJ : Jn B S.σ) (hG : ∀ v I' S', CT K R t I' S' → Jn B S'.σ → -5 ≤ v → Q v I') : w_X6_setTarget K R t x y z I Q := by
  have hT := hC.1
  have hB := hT.o0
  unfold w_X6_setTarget w_X6_setTarget_b45
  refine ⟨hT, ?_⟩
  rcases Gt_or (n := 4) x with ⟨m, hm, rfl⟩ | hx
  · refine c_targetAt hB hm ?_
    simp only [← Nat.add_assoc, true_and, and_true, true_implies, forall_eq, forall_eq', not_true, not_false_iff, false_implies, Option.some.injEq, reduceCtorEq, exists_eq_left', implies_true, nl_1, nr_1, ix_nI, vpT, r_b_q, u_b_q, r_b_tk, u_b_tk, r_b_lt, u_b_lt, r_b_tm, u_b_tm, r_b_tt, u_b_tt, r_b_at, u_b_at, r_b_qt, u_b_qt, r_b_rt, u_b_rt, r_b_id, u_b_id, r_b_ov, u_b_ov, r_set0, u_set0, r_set1, u_set1, r_set2, u_set2, r_lent, u_lent, r_m1, u_m1, r_m2, u_m2, r_m3, u_m3, r_m4, u_m4, r_m5, u_m5, r_m6, u_m6, r_m7, u_m7, r_ml, u_ml, r_mr, u_mr, r_tc, u_tc, r_tn0, u_tn0, r_tn1, u_tn1, r_tn2, u_tn2, r_tl, u_tl, r_tr, u_tr, r_w0, u_w0, r_w1, u_w1, r_w2, u_w2, r_w3, u_w3, r_w4, u_w4, r_w5, u_w5, r_w6, u_w6, r_w7, u_w7, r_w8, u_w8, r_w9, u_w9, r_wa, u_wa]
    rcases Gt_or (n := 3) y with ⟨w, hw, rfl⟩ | hy
    · rw [ix_nI (by omega)]
      simp (disch := omega) only [vpT, true_and]
      refine c_idx1 (n := 3) hw (by decide) ⟨fun z => absurd z z10, fun _ => c_in (fun c => ⟨fun _ => ⟨hB.p3 hm, ?_⟩, fun z => absurd z z10⟩) (fun c => ⟨fun z => absurd rfl z, fun _ => hG _ _ _ hC hJ (by decide)⟩)⟩
      have hw3 : w = 0 ∨ w = 1 ∨ w = 2 := by omega
      refine k_chg hC hJ hG (so_tn m hm w hw) (by omega) (by omega) (by unfold isV; omega) (fun ρ hρ => ?_) ?_
      · rcases hw3 with rfl | rfl | rfl
        · obtain ⟨j, hj, e⟩ := le_nI (n := 4) (Int32.le_trans (show (0 : Int32) ≤ 1 by decide) c.1) c.2 (by decide)
          have hj1 : 1 ≤ j := by
            have := c.1
            rw [e] at this
            exact (nI_leI (a := 1) (by omega) (by omega)).mp this
          rw [e]
          exact hρ.room hm hj1 hj
        · exact hρ.su1 (by unfold isStr; omega)
        · exact hρ.su1 (by unfold isStr; omega)
      · rcases hw3 with rfl | rfl | rfl
        · exact Int32.le_trans (by decide) c.1
        · exact Int32.le_trans (by decide) c.1
        · exact Int32.le_trans (by decide) c.1
    · exact c_idxN (n := 3) (by decide) hy ⟨fun _ => hG _ _ _ hC hJ (by decide), fun z => absurd rfl z⟩
  · exact c_targetNo hx ⟨fun _ => hG _ _ _ hC hJ (by decide), fun r4 z => by cases z⟩
theorem k_set {x y : Int32} (hC : CT K R t I S) (hJ : Jn B S.σ) (hG : ∀ v I' S', CT K R t I' S' → Jn B S'.σ → -5 ≤ v → Q v I') : w_X6_set K R t x y I Q := by
  have hT := hC.1
  have hB := hT.o0
  have hS := hC.2.1.1
  unfold w_X6_set w_X6_set_b28
  rcases Gt_or (n := 3) x with ⟨w, hw, rfl⟩ | hx
  · refine c_idx1 (n := 3) hw (by decide) ⟨fun z => absurd z z10, fun _ => ⟨vp_in_nI hw (by decide), vp_in_nI hw (by decide), ?_⟩⟩
    rw [ix_nI (by omega)]
    have hw3 : w = 0 ∨ w = 1 ∨ w = 2 := by omega
    have b49 : (stL 0).getD w 0 ≤ y ∧ y ≤ (stL 1).getD w 0 → (w = 0 → LF S.σ y) → w_X6_set_b49 K R t (nI w) y Q I := by
      intro c hl
      unfold w_X6_set_b49
      refine ⟨hT, vp_in_nI hw (by decide), ?_⟩
      rw [ix_nI (by omega)]
      simp (disch := omega) only [vpT, true_and, forall_eq]
      refine k_chg hC hJ hG (so_set w hw) (by omega) (by omega) (by unfold isV; omega) (fun ρ hρ => ?_) ?_
      · rcases hw3 with rfl | rfl | rfl
        · obtain ⟨T', e, t1, t8, hk⟩ := hl rfl
          rw [e]
          exact hρ.tags t1 t8 (fun k a c => hk k c a)
        · have h02 := c
          obtain ⟨j, hj, e⟩ := le_nI (n := 2) h02.1 h02.2 (by decide)
          refine hρ.manner ?_
          have : j = 0 ∨ j = 1 ∨ j = 2 := by omega
          rcases this with rfl | rfl | rfl
          · exact Or.inl e
          · exact Or.inr (Or.inl e)
          · exact Or.inr (Or.inr e)
        · exact hρ.su1 (by unfold isStr; omega)
      · rcases hw3 with rfl | rfl | rfl
        · exact Int32.le_trans (by decide) c.1
        · exact Int32.le_trans (by decide) c.1
        · exact Int32.le_trans (by decide) c.1
    refine c_in (fun c => ⟨fun _ => ⟨fun c0 => b49 c (fun e => absurd (by rw [e]; rfl) c0), fun c0 => ⟨hT, ?_⟩⟩, fun z => absurd z z10⟩) (fun c => ⟨fun z => absurd rfl z, fun _ => hG _ _ _ hC hJ (by decide)⟩)
    have w0 : w = 0 := nI_inj (b := 0) (by omega) (by omega) c0
    subst w0
    obtain ⟨j, hj, e⟩ := le_nI (n := 8) (Int32.le_trans (show (0 : Int32) ≤ 1 by decide) c.1) c.2 (by decide)
    have hj1 : 1 ≤ j := by
      have := c.1
      rw [e] at this
      exact (nI_leI (a := 1) (by omega) (by omega)).mp this
    have hh := hiL_ok (σ := S.σ) (T' := j) (by omega) 8 (by omega)
    have h0 := c_highest (J := I) (b := t + 1) (ρ := rowB I (t + 1)) (σ := S.σ) (K := K) (R := R) (Q := fun v21 I20 => ((v21 < y → w_X6_set_b49 K R t (nI 0) y Q I20) ∧ (¬ v21 < y → Q (-4) I20))) hB (fun k hk => hC.2.1.2.2.1.1 _ (by omega) (by omega) (by omega)) ?_
    · rw [stB_self] at h0
      exact h0
    · rw [stB_self]
      refine ⟨fun z => b49 c (fun _ => ⟨j, e, hj1, hj, ?_⟩), fun z => hG _ _ _ hC hJ (by decide)⟩
      rw [e] at z
      exact fun k hk hk2 => hh.mp z k hk hk2
  · exact c_idxN (n := 3) (by decide) hx ⟨fun _ => hG _ _ _ hC hJ (by decide), fun z => absurd rfl z⟩
theorem Jn.put {m A L : Nat} {x1 x2 x3 : Int32} {σ : Sr} (h : Jn B σ) (hS : InvS σ) (hA : ix (σ 4) = A) (hA2 : A < 200) (hm : m < 4) (hL : loN σ m = L) (hL6 : L < 6) (hx : -5 ≤ x3) : Jn B (putS σ m A L x1 x2 x3) := by
  obtain ⟨h1, h2, h3, n, hn, e⟩ := h
  refine ⟨put_wok h1 hA hA2 hm hL6, put_J hS h2 hA hA2 hm hL hL6 hx, ?_, n, hn, ?_⟩
  · unfold Tk at h3 ⊢
    rw [putS_n (by omega) (by omega), putS_n (by omega) (by omega), putS_n (by omega) (by omega), putS_n (by omega) (by omega), putS_n (by omega) (by omega)]
    exact h3
  · rw [putS_n (by omega) (by omega)]; exact e
theorem k_putOne {m t' a : Nat} {y : Int32} (hC : CT K R t I S) (hJ : Jn B S.σ) (hG : ∀ v I' S', CT K R t I' S' → Jn B S'.σ → -5 ≤ v → Q v I') (hm : m < 4) (ht : t' < 4) (ha : a < 16) (hy : -5 ≤ y) : w_X6_putOne K R t (nI m) (nI t') (nI a) y I Q := by
  have hT := hC.1
  have hB := hT.o0
  have hS := hC.2.1.1
  obtain ⟨hA4, hA⟩ := hS.A4
  obtain ⟨h6, er, -⟩ := hS.rows hm
  have e1 : I (t + 1 + 6 + 3 * m + 1) 1 = nI (loN S.σ m) := by rw [hC.rd (so_ml m hm) (by omega) (by omega) (by omega) (by omega)]; exact er
  obtain ⟨b5, bA⟩ := bus5 hC.2.1
  have no : Q (-3) I := hG _ _ _ hC hJ (by decide)
  unfold w_X6_putOne w_X6_putOne_b26 w_X6_putOne_b66
  refine ⟨hT, c_masterAt hB hm ⟨fun z => (by cases z), fun r4 e4 => ?_⟩⟩
  cases e4
  refine c_targetAt hB ht ⟨fun z => (by cases z), fun r7 e7 => ?_⟩
  cases e7
  refine c_idx1 (n := 16) ha (by decide) ⟨fun _ => ⟨hB.p2 hm, fun c => no, fun c => ⟨fun c2 => ?_, fun c2 => no⟩⟩, fun z => absurd z z10⟩
  rw [e1] at c
  rw [b5] at c2
  have l6 : loN S.σ m < 6 := by
    rcases Nat.lt_or_ge (loN S.σ m) 6 with z | z
    · exact z
    · exact absurd ((nI_leI (a := 6) (by omega) (by omega)).mpr z) c
  have a200 : ix (S.σ 4) < 200 := (nI_ltI (b := 200) (by omega) (by omega)).mp c2
  refine c_record hC (fun I3 hC3 f3 => ?_)
  have hrel := hC3.2.1
  rw [rec_σ] at hrel
  have h := c_put (K := K) (R := R) (J := I3) (b := t + 1) (ρ := rowB I3 (t + 1)) (σ := S.σ) (A := ix (S.σ 4)) (L := loN S.σ m) (m := m) (x1 := nI t') (x2 := nI a) (x3 := y) (Q := Q) hB hrel rfl a200 hm rfl l6 ⟨t', ht, rfl⟩ ⟨a, ha, rfl⟩ (fun ρ' hρ' => hG _ _ _ (hC3.w hρ') (hJ.put hS rfl a200 hm rfl l6 hy) (m5_nI _ (by omega)))
  rw [stB_self] at h
  exact h
theorem k_read {x y z : Int32} (hC : CT K R t I S) (hJ : Jn B S.σ) (hG : ∀ v I' S', CT K R t I' S' → Jn B S'.σ → -5 ≤ v → Q v I') : w_X6_read K R t x y z I Q := by
  have hT := hC.1
  unfold w_X6_read
  refine ⟨hT, ?_⟩
  by_cases h3 : ((∃ m, m < 4 ∧ x = nI m) ∧ (∃ m, m < 4 ∧ y = nI m) ∧ ∃ a, a < 16 ∧ z = nI a)
  · obtain ⟨⟨m, hm, rfl⟩, ⟨t', ht, rfl⟩, a, ha, rfl⟩ := h3
    exact k_putOne hC hJ hG hm ht ha (by decide)
  · exact c_putOneNo hT (fun h => hG _ _ _ hC hJ (by decide)) (fun h1 h2 h => hG _ _ _ hC hJ (by decide)) h3
theorem k_write {x y z w : Int32} (hC : CT K R t I S) (hJ : Jn B S.σ) (hG : ∀ v I' S', CT K R t I' S' → Jn B S'.σ → -5 ≤ v → Q v I') : w_X6_write K R t x y z w I Q := by
  have hT := hC.1
  have hB := hT.o0
  unfold w_X6_write w_X6_write_b22
  refine ⟨hT, ?_⟩
  rcases Gt_or (n := 4) x with ⟨m, hm, rfl⟩ | hx
  · refine c_masterAt hB hm ⟨fun z => (by cases z), fun r4 e4 => ?_⟩
    cases e4
    rcases Gt_or (n := 4) y with ⟨t', ht, rfl⟩ | hy
    · refine c_targetAt hB ht ⟨fun z => (by cases z), fun r4 e4 => ?_⟩
      cases e4
      refine c_in (fun c => ⟨fun _ => ?_, fun q => absurd q z10⟩) (fun c => ⟨fun q => absurd rfl q, fun _ => hG _ _ _ hC hJ (by decide)⟩)
      rcases Gt_or (n := 16) z with ⟨a, ha, rfl⟩ | hz
      · exact k_putOne hC hJ hG hm ht ha (Int32.le_trans (by decide) c.1)
      · exact c_putOneNo hT (fun h => hG _ _ _ hC hJ (by decide)) (fun h1 h2 h => hG _ _ _ hC hJ (by decide)) (fun h => by
          obtain ⟨-, -, a, ha, e⟩ := h
          exact hz a ha e)
    · exact c_targetNo hy ⟨fun _ => hG _ _ _ hC hJ (by decide), fun r4 z => by cases z⟩
  · exact c_masterNo hx ⟨fun _ => hG _ _ _ hC hJ (by decide), fun r4 z => by cases z⟩
theorem k_withdraw {x : Int32} (hC : CT K R t I S) (hJ : Jn B S.σ) (hG : ∀ v I' S', CT K R t I' S' → Jn B S'.σ → -5 ≤ v → Q v I') : w_X6_withdraw K R t x I Q := by
  have hT := hC.1
  have hB := hT.o0
  have hS := hC.2.1.1
  unfold w_X6_withdraw
  refine ⟨hT, ?_⟩
  rcases Gt_or (n := 4) x with ⟨m, hm, rfl⟩ | hx
  · refine c_masterAt hB hm ⟨fun z => (by cases z), fun r4 e4 => ?_⟩
    cases e4
    obtain ⟨hr6, er, hrow⟩ := hS.rows hm
    have e1 : I (t + 1 + 6 + 3 * m + 1) 1 = nI (loN S.σ m) := by rw [hC.rd (so_ml m hm) (by omega) (by omega) (by omega) (by omega)]; exact er
    rw [e1]
    refine ⟨hB.p2 hm, fun c => ?_, fun c => hG _ _ _ hC hJ (by decide)⟩
    have h1 : 1 ≤ loN S.σ m := by
      rcases Nat.eq_zero_or_pos (loN S.σ m) with z | z
      · rw [z] at c; exact absurd rfl c
      · exact z
    obtain ⟨p1, p2, p3, p4, p5, p6, p7⟩ := hrow (loN S.σ m - 1) (by omega)
    refine c_record hC (fun I3 hC3 f3 => ?_)
    have hrel := hC3.2.1
    rw [rec_σ] at hrel
    have h := c_takeLast (K := K) (R := R) (J := I3) (b := t + 1) (ρ := rowB I3 (t + 1)) (σ := S.σ) (m := m) (L := loN S.σ m) (q := rwq S.σ m (loN S.σ m - 1)) (Q := Q) hB hrel hm rfl h1 rfl (fun ρ' hρ' => hG _ _ _ (hC3.w hρ') ?_ (m5_nI _ (by omega)))
    · rw [stB_self] at h
      exact h
    · obtain ⟨j1, j2, j3, n, hn, e⟩ := hJ
      refine ⟨wd_wok j1 hm, wd_J hS j2 hm rfl h1 rfl, ?_, n, hn, ?_⟩
      · show Tk (wdS S.σ m (loN S.σ m) (rwq S.σ m (loN S.σ m - 1)))
        unfold Tk at j3 ⊢
        rw [wdS_n (by omega), wdS_n (by omega), wdS_n (by omega), wdS_n (by omega), wdS_n (by omega)]
        exact j3
      · show wdS S.σ m (loN S.σ m) (rwq S.σ m (loN S.σ m - 1)) 0 = nI n
        rw [wdS_n (by omega)]; exact e
  · exact c_masterNo hx ⟨fun _ => hG _ _ _ hC hJ (by decide), fun r4 z => by cases z⟩
theorem k_passJ {x : Int32} (hC : CT K R t I S) (hJ : Jn B S.σ) (hB : B ≤ 9000) (hG : ∀ v I' S', CT K R t I' S' → Jn (B + 99) S'.σ → -5 ≤ v → Q v I') : w_X6_pass K R t x I Q := by
  by_cases c : (1 : Int32) ≤ x ∧ x ≤ 99
  · obtain ⟨n, hn, rfl⟩ := le_nI (n := 99) (Int32.le_trans (show (0 : Int32) ≤ 1 by decide) c.1) c.2 (by decide)
    have h1 : 1 ≤ n := (nI_leI (a := 1) (by omega) (by omega)).mp c.1
    obtain ⟨b, hb, eb⟩ := hJ.2.2.2
    have hm : ∀ k, mvN S.σ k ≤ k := fun k => by
      induction k with
      | zero => exact Nat.le_refl _
      | succ k ih => unfold mvN; split <;> omega
    exact k_pass hC ⟨b, by omega, eb⟩ h1 hn (fun I' h => hG _ _ _ h ((hJ.tkN hC.2.1.1 n).mono (by omega)) (m5_nI _ (by have := hm n; omega)))
  · unfold w_X6_pass
    exact c_in0 c ⟨fun z => absurd rfl z, fun _ => hG _ _ _ hC (hJ.mono (by omega)) (by decide)⟩
theorem k_does {x : Int32} (hC : CT K R t I S) (hJ : Jn B S.σ) (hB : B ≤ 9000) (hG : ∀ v I' S', CT K R t I' S' → Jn (B + 99) S'.σ → -5 ≤ v → Q v I') : w_L_does K R (some t) x I Q := by
  have hT := hC.1
  have hg : ∀ v I' S', CT K R t I' S' → Jn B S'.σ → -5 ≤ v → Q v I' := fun v I' S' a b c => hG v I' S' a (b.mono (by omega)) c
  have h84 : ∀ y z, w_L_does_b84 K R (some t) x Q y z I := fun y z => by
    unfold w_L_does_b84
    exact ⟨t, rfl, hT, k_read hC hJ hg⟩
  have h98 : ∀ y z, w_L_does_b98 K R (some t) x Q y z I := fun y z => by
    unfold w_L_does_b98 w_L_low
    exact ⟨by decide, t, rfl, hT, k_write hC hJ hg⟩
  unfold w_L_does w_L_does_b182 w_L_does_b256 w_L_low
  exact ⟨fun _ => h84 _ _, fun _ => h84 _ _, fun _ => h84 _ _, fun _ => h84 _ _, fun _ => h98 _ _, fun _ => h98 _ _, fun _ => h98 _ _, fun _ => ⟨t, rfl, hT, k_withdraw hC hJ hg⟩, fun _ => ⟨t, rfl, hT, k_set hC hJ hg⟩, fun _ => ⟨fun _ => ⟨by decide, t, rfl, hT, k_set hC hJ hg⟩, fun _ => ⟨by decide, t, rfl, hT, k_set hC hJ hg⟩⟩, fun _ => ⟨t, rfl, hT, k_setShare hC hJ hg⟩, fun _ => ⟨fun _ => ⟨fun _ => ⟨t, rfl, hT, k_setTarget hC hJ hg⟩, fun _ => ⟨by decide, t, rfl, hT, k_setTarget hC hJ hg⟩⟩, fun _ => ⟨t, rfl, hT, k_setTarget hC hJ hg⟩⟩, fun _ => ⟨by decide, t, rfl, hT, k_setCell hC hJ hg⟩, fun _ => ⟨by decide, t, rfl, hT, k_passJ hC hJ hB hG⟩⟩
end KA
