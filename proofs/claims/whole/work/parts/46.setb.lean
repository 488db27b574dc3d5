section SB0
variable {ρ σ : Sr}
theorem RelB.room {t rm : Nat} (h : RelB ρ σ) (ht : t < 4) (h1 : 1 ≤ rm) (h4 : rm ≤ 4) : RelB (su ρ (65 + 24 * t + 16) (nI rm)) (su σ (65 + 24 * t + 16) (nI rm)) := by
  obtain ⟨hS, hM, ⟨g1, g2⟩, hL, hC⟩ := h
  have hn : ∀ j, j ≠ 65 + 24 * t + 16 → su σ (65 + 24 * t + 16) (nI rm) j = σ j := fun j hj => su_n hj
  refine ⟨?_, by rw [hn 2 (by omega)]; exact hM, ⟨?_, ?_⟩, by rw [hn 5 (by omega), su_n (by omega)]; exact hL, hC.fr hS (fun j hj => su_n (by omega)) (hn 1 (by omega)) (hn 4 (by omega)) (fun j hj => hn _ (by omega)) (fun q hq => hn _ (by omega)) (fun q hq => by rw [hn _ (by omega)]) (fun q hq => hn _ (by omega))⟩
  · obtain ⟨T, A, a1, a2, a3, a4, a5, a6, a7, a8, a9, a10, a11⟩ := hS
    refine ⟨T, A, by rw [hn _ (by omega)]; exact a1, a2, a3, by rw [hn _ (by omega)]; exact a4, a5, by rw [hn _ (by omega)]; exact a6, by rw [hn _ (by omega)]; exact a7, fun k hk => (a8 k hk).fr (hn _ (by omega)) (Nat.le_refl _), fun m hm => (a9 m hm).fr (fun w hw' => hn _ (by omega)) (fun L j q g0 g1 g2 g3 g4 g5 => ⟨by rw [hn _ (by omega)]; exact g5, hn _ (by omega)⟩) (Nat.le_refl _), fun t' ht' => ?_, fun q hq => (a11 q hq).fr (fun w hw' => hn _ (by omega))⟩
    by_cases e : t' = t
    · subst e
      obtain ⟨n, r0, b1, b2, b3, b4, b5, b6⟩ := a10 t' ht
      refine ⟨n, rm, b1, by rw [hn _ (by omega)]; exact b2, h1, h4, by rw [su_s], fun j hj => ?_⟩
      obtain ⟨q, k, c1, c2, c3, c4, c5, c6, c7, c8⟩ := b6 j hj
      exact ⟨q, k, c1, by rw [hn _ (by omega)]; exact c2, by unfold OnT at c3 ⊢; rw [hn _ (by omega)]; exact c3, by rw [hn _ (by omega)]; exact c4, c5, by rw [hn _ (by omega)]; exact c6, by rw [hn _ (by omega)]; exact c7, fun i hi => by rw [hn _ (by omega)]; exact c8 i hi⟩
    · exact (a10 t' ht').fr (fun w hw' => hn _ (by omega)) (fun n j q k g0 g1 g2 g3 g4 g5 g6 g7 g8 => ⟨by unfold OnT at g5 ⊢; rw [hn _ (by omega)]; exact g5, hn _ (by omega), hn _ (by omega), hn _ (by omega)⟩) (Nat.le_refl _)
  · rw [hn 4 (by omega)]; exact g1.both
  · rw [hn 4 (by omega)]
    refine g2.fr (fun q hq ho => ⟨?_, su_n (by omega), hn _ (by omega)⟩)
    unfold OnT at ho ⊢
    rw [hn _ (by omega)] at ho
    exact ho
theorem RelB.manner {x : Int32} (h : RelB ρ σ) (hx : x = 0 ∨ x = 1 ∨ x = 2) : RelB (su ρ 2 x) (su σ 2 x) := by
  obtain ⟨hS, hM, ⟨g1, g2⟩, hL, hC⟩ := h
  have hn : ∀ j, j ≠ 2 → su σ 2 x j = σ j := fun j hj => su_n hj
  refine ⟨hS.fr (fun j hj => hn j (by unfold isStr at hj; omega)) (fun q => Or.inl (hn _ (by omega))), by rw [su_s]; exact hx, ⟨?_, ?_⟩, by rw [hn 5 (by omega), su_n (by omega)]; exact hL, hC.fr hS (fun j hj => su_n (by omega)) (hn 1 (by omega)) (hn 4 (by omega)) (fun j hj => hn _ (by omega)) (fun q hq => hn _ (by omega)) (fun q hq => by rw [hn _ (by omega)]) (fun q hq => hn _ (by omega))⟩
  · rw [hn 4 (by omega)]; exact g1.both
  · rw [hn 4 (by omega)]
    refine g2.fr (fun q hq ho => ⟨?_, su_n (by omega), hn _ (by omega)⟩)
    unfold OnT at ho ⊢
    rw [hn _ (by omega)] at ho
    exact ho
theorem cnt_ext {p : Nat → Bool} {n : Nat} : ∀ d, (∀ k, n ≤ k → k < n + d → p k = false) → cnt p (n + d) = cnt p n
  | 0, _ => rfl
  | d + 1, h => by
    rw [← Nat.add_assoc, cnt_f (h (n + d) (by omega) (by omega))]
    exact cnt_ext d (fun k a b => h k a (by omega))
theorem cnt_max {p : Nat → Bool} {n m : Nat} (h1 : ∀ k, n ≤ k → k < m → p k = false) (h2 : ∀ k, m ≤ k → k < n → p k = false) : cnt p m = cnt p n := by
  rcases Nat.le_total n m with c | c
  · obtain ⟨d, rfl⟩ := Nat.exists_eq_add_of_le c
    exact cnt_ext d (fun k a b => h1 k a b)
  · obtain ⟨d, rfl⟩ := Nat.exists_eq_add_of_le c
    exact (cnt_ext d (fun k a b => h2 k a b)).symm
theorem RelB.tags {T' : Nat} (h : RelB ρ σ) (h1 : 1 ≤ T') (h8 : T' ≤ 8) (hl : ∀ k, T' ≤ k → k < 8 → σ (13 + k) = -5) : RelB (su ρ 1 (nI T')) (su σ 1 (nI T')) := by
  obtain ⟨hS, hM, ⟨g1, g2⟩, hL, hC⟩ := h
  have hn : ∀ j, j ≠ 1 → su σ 1 (nI T') j = σ j := fun j hj => su_n hj
  have hS0 := hS
  obtain ⟨hT, -, hT8⟩ := hS.T1
  obtain ⟨T, A, a1, a2, a3, a4, a5, a6, a7, a8, a9, a10, a11⟩ := hS
  have hTT : Tg_ σ = T := ix_eq a1 (by omega)
  have hT' : Tg_ (su σ 1 (nI T')) = T' := by unfold Tg_; rw [su_s, ix_nI (by omega)]
  refine ⟨⟨T', A, su_s _ _ _, h1, h8, by rw [hn _ (by omega)]; exact a4, a5, by rw [hn _ (by omega)]; exact a6, by rw [hn _ (by omega)]; exact a7, fun k hk => ?_, fun m hm => (a9 m hm).fr (fun w hw' => hn _ (by omega)) (fun L j q g0 g1 g2 g3 g4 g5 => ⟨by rw [hn _ (by omega)]; exact g5, hn _ (by omega)⟩) (Nat.le_refl _), fun t ht => (a10 t ht).fr (fun w hw' => hn _ (by omega)) (fun n j q k g0 g1 g2 g3 g4 g5 g6 g7 g8 => ⟨by unfold OnT at g5 ⊢; rw [hn _ (by omega)]; exact g5, hn _ (by omega), hn _ (by omega), hn _ (by omega)⟩) (Nat.le_refl _), fun q hq => (a11 q hq).fr (fun w hw' => hn _ (by omega))⟩, by rw [hn 2 (by omega)]; exact hM, ⟨?_, ?_⟩, by rw [hn 5 (by omega), su_n (by omega)]; exact hL, ?_⟩
  · unfold LentOK
    rw [hn _ (by omega)]
    rcases a8 k hk with e | ⟨e, q⟩
    · exact Or.inl e
    · by_cases c : T' ≤ k
      · exact Or.inl (hl k c hk)
      · exact Or.inr ⟨by omega, q⟩
  · rw [hn 4 (by omega)]; exact g1.both
  · rw [hn 4 (by omega)]
    refine g2.fr (fun q hq ho => ⟨?_, su_n (by omega), hn _ (by omega)⟩)
    unfold OnT at ho ⊢
    rw [hn _ (by omega)] at ho
    exact ho
  · intro m hm
    obtain ⟨c1, c2, c3⟩ := hC m hm
    rw [su_n (by omega), su_n (by omega), su_n (by omega), c1, c2, c3]
    have hb : ∀ k, heldBy (su σ 1 (nI T')) m k = heldBy σ m k := fun k => by
      unfold heldBy
      rw [hn _ (by omega), hn _ (by omega)]
    have hd : ∀ k, k < 8 → σ (13 + k) = -5 → heldBy σ m k = false := fun k hk e => by unfold heldBy; rw [e]; rfl
    have h3 : ∀ q, ansB3 (su σ 1 (nI T')) m q = ansB3 σ m q := fun q => ansB3_fr (hn _ (by omega)) (by rw [hn _ (by omega)])
    refine ⟨?_, ?_, ?_⟩
    · unfold holdsN
      rw [hT', cnt_congr _ (fun k _ => hb k)]
      rw [cnt_max (n := Tg_ σ) (m := T') (fun k a b => hd k (by omega) ?_) (fun k a b => hd k (by omega) (hl k a (by omega)))]
      rcases a8 k (by omega) with e | ⟨e, -⟩
      · exact e
      · omega
    · unfold ansN
      rw [hn 4 (by omega), cnt_congr _ (fun q _ => h3 q)]
    · rw [hn 4 (by omega)]
      exact (lonL_congr _ (fun q _ => ⟨h3 q, fun _ => hn _ (by omega)⟩)).symm
end SB0
section SB
variable {K : MK} {R : MR} {I J : MI} {t r b : Nat} {S : St}
/-- the class's and the reference's way to change one slot, one behind the other -/
theorem p_chg {G : Int32 → Int32 → MI → Prop} {W : MI → (Int32 → MI → Prop) → Prop} {o s k a : Nat} {y : Int32} (hd : t + 1681 ≤ r) (hC : CT K R t I S) (hR : RT K R r I S) (hW : WS S) (hG : ∀ v I', Rel2 K R t r I' → G v v I') (hs : slotO o s = some k) (ha : a = t + 1 + o) (h1 : k < 161) (h2 : k ≠ 5 ∧ k ≠ 4) (hr : ∀ ρ, RelB ρ S.σ → RelB (su ρ k y) (su S.σ k y)) (hWW : ∀ I1 Q, RT K R r I1 S → w_X7_change K R r (nI k) y I1 Q → W I1 Q) : (¬ I a s = y → w_X6_record K R t I (fun I3 => W (upI I3 a s y) (fun v' I2 => G (I a s) v' I2))) ∧ (I a s = y → W I (fun v' I2 => G (-5) v' I2)) := by
  have hRL : Rel2 K R t r I := ⟨S, hC, hR, hW⟩
  have erd : I a s = S.σ k := hC.rd hs ha (by omega) h2.1 (by omega)
  rw [erd]
  refine ⟨fun z => c_recset (a := a) (Q := fun I1 => W I1 (fun v' I2 => G (S.σ k) v' I2)) hC hs ha hr (fun I' a' b => ?_), fun z => ?_⟩
  · exact hWW _ _ (hR.ofC hd b) (r_change (hR.ofC hd b) (by omega) (fun _ I2 e f => hG _ I2 ⟨_, a'.ofR hd f, e, hW.r.w (hW.1.s1 (by omega) (by omega))⟩) (fun e => absurd e z))
  · exact hWW _ _ hR (r_change hR (by omega) (fun e => absurd z e) (fun _ => hG _ I hRL))
theorem p_setCell {G : Int32 → Int32 → MI → Prop} {x y z : Int32} (hd : t + 1681 ≤ r) (hC : CT K R t I S) (hR : RT K R r I S) (hW : WS S) (hG : ∀ v I', Rel2 K R t r I' → G v v I') : w_X6_setCell K R t x y z I (fun v I1 => w_X7_setCell K R r x y z I1 (fun v' I2 => G v v' I2)) := by
  have hT := hC.1
  have hB := hT.o0
  have hRL : Rel2 K R t r I := ⟨S, hC, hR, hW⟩
  unfold w_X6_setCell w_X6_setCell_b36
  refine ⟨hT, ?_⟩
  rcases Gt_or (n := 4) x with ⟨m, hm, rfl⟩ | hx
  · refine c_targetAt hB hm ?_
    simp only [← Nat.add_assoc, true_and, and_true, true_implies, forall_eq, forall_eq', not_true, not_false_iff, false_implies, Option.some.injEq, reduceCtorEq, exists_eq_left', implies_true, nl_1, nr_1, ix_nI, vpT, r_b_q, u_b_q, r_b_tk, u_b_tk, r_b_lt, u_b_lt, r_b_tm, u_b_tm, r_b_tt, u_b_tt, r_b_at, u_b_at, r_b_qt, u_b_qt, r_b_rt, u_b_rt, r_b_id, u_b_id, r_b_ov, u_b_ov, r_set0, u_set0, r_set1, u_set1, r_set2, u_set2, r_lent, u_lent, r_m1, u_m1, r_m2, u_m2, r_m3, u_m3, r_m4, u_m4, r_m5, u_m5, r_m6, u_m6, r_m7, u_m7, r_ml, u_ml, r_mr, u_mr, r_tc, u_tc, r_tn0, u_tn0, r_tn1, u_tn1, r_tn2, u_tn2, r_tl, u_tl, r_tr, u_tr, r_w0, u_w0, r_w1, u_w1, r_w2, u_w2, r_w3, u_w3, r_w4, u_w4, r_w5, u_w5, r_w6, u_w6, r_w7, u_w7, r_w8, u_w8, r_w9, u_w9, r_wa, u_wa]
    rcases Gt_or (n := 16) y with ⟨w, hw, rfl⟩ | hy
    · have hy : (0 : Int32) ≤ nI w ∧ nI w ≤ nI 15 := (in_idx (by decide)).mpr ⟨w, hw, rfl⟩
      refine c_idx1 (n := 16) hw (by decide) ⟨fun z => absurd z z10, fun _ => c_in (fun c => ⟨fun _ => ⟨hB.p3 hm, vp_in_nI hw (by decide), ?_⟩, fun z => absurd z z10⟩) (fun c => ⟨fun z => absurd rfl z, fun _ => ?_⟩)⟩
      · rw [ix_nI (by omega)]
        simp (disch := omega) only [vpT, true_and]
        exact p_chg (W := fun I1 Q => w_X7_setCell K R r (nI m) (nI w) z I1 Q) hd hC hR hW hG (so_tc m hm w hw) (by omega) (by omega) (by omega) (fun ρ hρ => hρ.su1 (by unfold isStr; omega)) (fun I1 Q hR1 hch => by
          unfold w_X7_setCell w_X7_setCell_b44
          refine r_port1 hm ⟨fun _ => r_in1 hy ⟨fun z => absurd z z10, fun _ => r_in1 c ⟨fun z => absurd z z10, fun _ => ?_⟩⟩, fun z => absurd z z10⟩
          rw [ofT_n]
          exact ⟨hR1.1, hch⟩)
      · unfold w_X7_setCell w_X7_setCell_b42 w_X7_setCell_b44
        exact r_port1 hm ⟨fun _ => r_in1 hy ⟨fun z => absurd z z10, fun _ => r_in0 c ⟨fun _ => hG _ _ hRL, fun z => absurd rfl z⟩⟩, fun z => absurd z z10⟩
    · have hy' : ¬ ((0 : Int32) ≤ y ∧ y ≤ nI 15) := fun c => by
        obtain ⟨j, hj, e⟩ := (in_idx (by decide)).mp c
        exact hy j hj e
      refine c_idxN (n := 16) (by decide) hy ⟨fun _ => ?_, fun z => absurd rfl z⟩
      unfold w_X7_setCell w_X7_setCell_b42 w_X7_setCell_b44
      exact r_port1 hm ⟨fun _ => r_in0 hy' ⟨fun _ => hG _ _ hRL, fun z => absurd rfl z⟩, fun z => absurd z z10⟩
  · refine c_targetNo hx ⟨fun _ => ?_, fun r4 z => by cases z⟩
    unfold w_X7_setCell
    exact r_port0 hx ⟨fun z => absurd rfl z, fun _ => hG _ _ hRL⟩
end SB
