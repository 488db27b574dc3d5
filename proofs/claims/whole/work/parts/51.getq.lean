section GQ
variable {K : MK} {R : MR} {I J : MI} {t r b : Nat} {S : St}
theorem c_questionN {Q : Option Nat → MI → Prop} {x : Int32} {A : Nat} (hB : IsBus K R b) (hI : I b 5 = nI A) (hA : A < 2 ^ 31) (hx : ∀ q, q < A → x ≠ nI q) (h : Q none I) : w_X0_questionAt K R b x I Q := by
  unfold w_X0_questionAt w_X0_questionAt_b30 w_X0_questionAt_b31
  rw [hI]
  exact ⟨hB, c_idxN hA hx ⟨fun _ => h, fun c => absurd rfl c⟩⟩
theorem r_isQ1 {Q : Int32 → MI → Prop} {q : Nat} (hR : RT K R r I S) (hS : InvS S.σ) (hq : q < ix (S.σ 4)) (h : Q 1 I) : w_X7_isQuestion K R r (nI q) I Q := by
  obtain ⟨hA4, hA⟩ := hS.A4
  unfold w_X7_isQuestion
  rw [hR.2.1, hA4, nI_sub1 (by omega)]
  exact ⟨hR.1, r_in1 ((in_idx (by omega)).mpr ⟨q, by omega, rfl⟩) ⟨bz1, h⟩⟩
theorem r_isQ0 {Q : Int32 → MI → Prop} {x : Int32} (hR : RT K R r I S) (hS : InvS S.σ) (hx : ∀ q, q < ix (S.σ 4) → x ≠ nI q) (h : Q 0 I) : w_X7_isQuestion K R r x I Q := by
  obtain ⟨hA4, hA⟩ := hS.A4
  unfold w_X7_isQuestion
  rw [hR.2.1, hA4]
  refine ⟨hR.1, r_in0 (fun z => ?_) ⟨bz0, h⟩⟩
  rcases Nat.eq_zero_or_pos (ix (S.σ 4)) with e | e
  · rw [e] at z
    exact absurd (Int32.le_trans z.1 z.2) (by decide)
  · rw [nI_sub1 e] at z
    obtain ⟨j, hj, ej⟩ := (in_idx (by omega)).mp z
    exact hx j (by omega) ej
theorem sw_no {x : Int32} {n : Nat} (hn : n < 2 ^ 31) (h : x.toInt < 0 ∨ (n : Int) < x.toInt) : ¬ ((0 : Int32) ≤ x ∧ x ≤ nI n) := by
  intro z
  have a := Int32.le_iff_toInt_le.mp z.1
  have b := Int32.le_iff_toInt_le.mp z.2
  rw [nI_toInt hn] at b
  have z0 : (0 : Int32).toInt = 0 := by decide
  omega
theorem p_question {G : Int32 → Int32 → MI → Prop} {x y : Int32} (hC : CT K R t I S) (hR : RT K R r I S) (hG : ∀ v, G v v I) : w_X6_question K R t x y I (fun v I1 => w_X7_question_ K R r x y I1 (fun v' I2 => G v v' I2)) := by
  have hT := hC.1
  have hB := hT.o0
  have hS := hC.2.1.1
  obtain ⟨b5, bA⟩ := bus5 hC.2.1
  have hM := hR.1
  unfold w_X6_question
  refine ⟨hT, ?_⟩
  rcases Gt_or (n := ix (S.σ 4)) x with ⟨q, hq, rfl⟩ | hx
  · refine c_questionAt hB b5 bA hq ?_
    have hQ := hB.p4 (i := q) (by omega)
    have key : ∀ (x2 : Int32) (w : Nat) (V : Int32), ((0 : Int32) ≤ x2 ∧ x2 ≤ 8) → ((x2 = nI w ∧ w < 7) ∨ (x2 = 7 ∧ w = 8) ∨ (x2 = 8 ∧ w = 9)) → V = S.σ (161 + 11 * q + w) → w_X7_question_ K R r (nI q) x2 I (fun v' I2 => G V v' I2) := by
      intro x2 w V hin hw eV
      subst eV
      unfold w_X7_question_ w_X7_question__b73
      refine ⟨hM, r_isQ1 hR hS hq ⟨fun _ => r_in1 hin ⟨fun _ => ?_, fun z => absurd z z10⟩, fun z => absurd z z10⟩⟩
      rcases hw with ⟨e, hw⟩ | ⟨e, rfl⟩ | ⟨e, rfl⟩
      · subst e
        have n7 : nI w ≠ 7 := fun z => by have := nI_inj (b := 7) (by omega) (by omega) z; omega
        have n8 : nI w ≠ 8 := fun z => by have := nI_inj (b := 8) (by omega) (by omega) z; omega
        refine ⟨fun _ => ⟨fun _ => ?_, fun z => absurd z n8⟩, fun z => absurd z n7⟩
        rw [of_n, ix_nI (by omega), hR.2.1]
        exact ⟨vp_in_nI (by omega) (by decide), hG _⟩
      · subst e
        refine ⟨fun z => absurd rfl z, fun _ => ?_⟩
        rw [of_l8, ix_nI (by omega), hR.2.1]
        exact ⟨vp_in_nI (by omega) (by decide), hG _⟩
      · subst e
        refine ⟨fun _ => ⟨fun z => absurd rfl z, fun _ => ?_⟩, fun z => absurd z (by decide)⟩
        rw [of_l9, ix_nI (by omega), hR.2.1]
        exact ⟨vp_in_nI (by omega) (by decide), hG _⟩
    have rd : ∀ w s, slotO (38 + q) s = some (161 + 11 * q + w) → w < 10 → I (t + 1 + 38 + q) s = S.σ (161 + 11 * q + w) := fun w s hs hw => hC.rd hs (by omega) (by omega) (by omega) (by omega)
    have rw' : ∀ w, w < 8 → I (t + 1 + 38 + q) w = S.σ (161 + 11 * q + w) := fun w hw => rd w w (so_w q (by omega) w hw) (by omega)
    refine ⟨fun z => (by cases z), fun r4 e4 => ?_⟩
    cases e4
    refine ⟨fun e => ⟨hQ, ?_⟩, fun e => ⟨hQ, ?_⟩, fun e => ⟨hQ, ?_⟩, fun e => ⟨hQ, ?_⟩, fun e => ⟨hQ, ?_⟩, fun e => ⟨hQ, ?_⟩, fun e => ⟨hQ, ?_⟩, fun e => ⟨hQ, ?_⟩, fun e => ⟨hQ, ?_⟩, fun e => ?_⟩
    · subst e; exact key 0 0 _ (by decide) (Or.inl ⟨rfl, by omega⟩) (rw' 0 (by omega))
    · subst e; exact key 1 1 _ (by decide) (Or.inl ⟨rfl, by omega⟩) (rw' 1 (by omega))
    · subst e; exact key 2 2 _ (by decide) (Or.inl ⟨rfl, by omega⟩) (rw' 2 (by omega))
    · subst e; exact key 3 3 _ (by decide) (Or.inl ⟨rfl, by omega⟩) (rw' 3 (by omega))
    · subst e; exact key 4 4 _ (by decide) (Or.inl ⟨rfl, by omega⟩) (rw' 4 (by omega))
    · subst e; exact key 5 5 _ (by decide) (Or.inl ⟨rfl, by omega⟩) (rw' 5 (by omega))
    · subst e; exact key 6 6 _ (by decide) (Or.inl ⟨rfl, by omega⟩) (rw' 6 (by omega))
    · subst e; exact key 7 8 _ (by decide) (Or.inr (Or.inl ⟨rfl, rfl⟩)) (rd 8 9 (so_w9 q (by omega)) (by omega))
    · subst e; exact key 8 9 _ (by decide) (Or.inr (Or.inr ⟨rfl, rfl⟩)) (rd 9 10 (so_wa q (by omega)) (by omega))
    · unfold w_X7_question_
      exact ⟨hM, r_isQ1 hR hS hq ⟨fun _ => r_in0 (sw_no (n := 8) (by decide) e) ⟨fun z => absurd rfl z, fun _ => hG _⟩, fun z => absurd z z10⟩⟩
  · refine c_questionN hB b5 (by omega) hx ⟨fun _ => ?_, fun r4 z => by cases z⟩
    unfold w_X7_question_
    exact ⟨hM, r_isQ0 hR hS hx ⟨fun z => absurd rfl z, fun _ => hG _⟩⟩
theorem p_tag {G : Int32 → Int32 → MI → Prop} {x : Int32} (hC : CT K R t I S) (hR : RT K R r I S) (hG : ∀ v, G v v I) : w_X6_tag K R t x I (fun v I1 => w_X7_tag K R r x I1 (fun v' I2 => G v v' I2)) := by
  have hT := hC.1
  have hS := hC.2.1.1
  have hM := hR.1
  obtain ⟨eT, h1, h8⟩ := hS.T1
  have e1 : I (t + 1 + 1) 0 = nI (Tg_ S.σ) := by rw [hC.rd (so_set 0 (by omega)) (by omega) (by omega) (by omega) (by omega)]; exact eT
  unfold w_X6_tag w_X6_tag_b25
  rw [e1]
  refine ⟨hT, ?_⟩
  rcases Gt_or (n := Tg_ S.σ) x with ⟨k, hk, rfl⟩ | hx
  · refine c_idx1 hk (by omega) ⟨fun z => absurd z z10, fun _ => c_idx1 (n := 8) (by omega) (by decide) ⟨fun _ => ⟨vp_in_nI (by omega) (by decide), ?_⟩, fun z => absurd z z10⟩⟩
    rw [ix_nI (by omega), hC.rd (a := t + 1 + 2) (so_lent k (by omega)) (by omega) (by omega) (by omega) (by omega)]
    unfold w_X7_tag w_X7_tag_b29
    dsimp only
    rw [hR.2.1, eT, nI_sub1 h1]
    refine ⟨hM, r_in1 ((in_idx (by omega)).mpr ⟨k, by omega, rfl⟩) ⟨fun z => absurd z z10, fun _ => ?_⟩⟩
    rw [nl_13, ix_nI (by omega)]
    rw [hR.2.1]
    exact ⟨vp_in_nI (by omega) (by decide), hG _⟩
  · refine c_idxN (by omega) hx ⟨fun _ => ?_, fun z => absurd rfl z⟩
    unfold w_X7_tag w_X7_tag_b29
    dsimp only
    rw [hR.2.1, eT, nI_sub1 h1]
    refine ⟨hM, r_in0 (fun z => ?_) ⟨fun _ => hG _, fun z => absurd rfl z⟩⟩
    obtain ⟨j, hj, ej⟩ := (in_idx (by omega)).mp z
    exact hx j (by omega) ej
theorem p_cell {G : Int32 → Int32 → MI → Prop} {x y : Int32} (hC : CT K R t I S) (hR : RT K R r I S) (hG : ∀ v, G v v I) : w_X6_cell K R t x y I (fun v I1 => w_X7_cell K R r x y I1 (fun v' I2 => G v v' I2)) := by
  have hT := hC.1
  have hB := hT.o0
  have hM := hR.1
  unfold w_X6_cell w_X6_cell_b35
  refine ⟨hT, ?_⟩
  rcases Gt_or (n := 4) x with ⟨m, hm, rfl⟩ | hx
  · refine c_targetAt hB hm ⟨fun z => (by cases z), fun r4 e4 => ?_⟩
    cases e4
    rcases Gt_or (n := 16) y with ⟨w, hw, rfl⟩ | hy
    · refine c_idx1 (n := 16) hw (by decide) ⟨fun z => absurd z z10, fun _ => ⟨hB.p3 hm, vp_in_nI hw (by decide), ?_⟩⟩
      rw [ix_nI (by omega), hC.rd (a := t + 1 + 18 + 5 * m + 1) (so_tc m hm w hw) (by omega) (by omega) (by omega) (by omega)]
      unfold w_X7_cell w_X7_cell_b34
      refine r_port1 hm ⟨fun _ => r_in1 ((in_idx (n := 15) (by decide)).mpr ⟨w, hw, rfl⟩) ⟨fun z => absurd z z10, fun _ => ⟨hM, ?_⟩⟩, fun z => absurd z z10⟩
      rw [ofT_n, ix_nI (by omega), hR.2.1]
      exact ⟨vp_in_nI (by omega) (by decide), hG _⟩
    · refine c_idxN (n := 16) (by decide) hy ⟨fun _ => ?_, fun z => absurd rfl z⟩
      unfold w_X7_cell w_X7_cell_b34
      refine r_port1 hm ⟨fun _ => r_in0 (fun c => ?_) ⟨fun _ => hG _, fun z => absurd rfl z⟩, fun z => absurd z z10⟩
      obtain ⟨j, hj, e⟩ := (in_idx (n := 15) (by decide)).mp c
      exact hy j hj e
  · refine c_targetNo hx ⟨fun _ => ?_, fun r4 z => by cases z⟩
    unfold w_X7_cell
    exact r_port0 hx ⟨fun z => absurd rfl z, fun _ => hG _⟩
theorem c_atN {Q : Int32 → MI → Prop} {a n : Nat} {x : Int32} (hL : IsLine K R a) (hI : I a 1 = nI n) (hn : n ≤ 6) (hx : ∀ j, j < n → x ≠ nI j) (h : Q (-5) I) : w_X1_at K R a x I Q := by
  unfold w_X1_at w_X1_at_b29 w_X1_at_b31
  rw [hI]
  exact ⟨hL, c_idxN (by omega) hx ⟨fun _ => h, fun c => absurd rfl c⟩⟩
theorem p_row {G : Int32 → Int32 → MI → Prop} {x y : Int32} (hC : CT K R t I S) (hR : RT K R r I S) (hG : ∀ v, G v v I) : w_X6_row K R t x y I (fun v I1 => w_X7_row K R r x y I1 (fun v' I2 => G v v' I2)) := by
  have hT := hC.1
  have hB := hT.o0
  have hS := hC.2.1.1
  have hM := hR.1
  unfold w_X6_row
  refine ⟨hT, ?_⟩
  rcases Gt_or (n := 4) x with ⟨m, hm, rfl⟩ | hx
  · refine c_masterAt hB hm ⟨fun z => (by cases z), fun r4 e4 => ?_⟩
    cases e4
    obtain ⟨hL6, eL, hj⟩ := hS.rows hm
    have e1 : I (t + 1 + 6 + 3 * m + 1) 1 = nI (loN S.σ m) := by rw [hC.rd (so_ml m hm) (by omega) (by omega) (by omega) (by omega)]; exact eL
    refine ⟨fun y0 => ⟨hB.p2 hm, ?_⟩, fun y0 => ?_⟩
    · rcases Gt_or (n := loN S.σ m) y with ⟨w, hw, rfl⟩ | hy
      · refine c_at (n := loN S.σ m) (hB.p2 (i := m) hm).o0 e1 hL6 hw ?_
        rw [hC.rd (a := t + 1 + 6 + 3 * m + 1 + 1) (so_mr m hm w (by omega)) (by omega) (by omega) (by omega) (by omega)]
        unfold w_X7_row w_X7_row_b47
        refine r_port1 hm ⟨fun _ => ⟨fun _ => ⟨hM, ?_⟩, fun z => absurd y0 z⟩, fun z => absurd z z10⟩
        rw [ofM_l0, ix_nI (by omega), hR.2.1, eL]
        refine ⟨vp_in_nI (by omega) (by decide), fun z => ?_, fun _ => ?_⟩
        · have := (nI_leI (by omega) (by omega)).mp z
          omega
        · rw [nl_1, ofM_n, ix_nI (by omega), hR.2.1]
          refine ⟨vp_in_nI (by omega) (by decide), ?_⟩
          rw [← Nat.add_assoc]
          exact hG _
      · refine c_atN (n := loN S.σ m) (hB.p2 (i := m) hm).o0 e1 hL6 hy ?_
        unfold w_X7_row w_X7_row_b47
        refine r_port1 hm ⟨fun _ => ⟨fun _ => ⟨hM, ?_⟩, fun z => absurd y0 z⟩, fun z => absurd z z10⟩
        rw [ofM_l0, ix_nI (by omega), hR.2.1, eL]
        refine ⟨vp_in_nI (by omega) (by decide), fun _ => hG _, fun z => ?_⟩
        exact absurd ⟨y0, z⟩ (idx_no (by omega) hy)
    · unfold w_X7_row
      exact r_port1 hm ⟨fun _ => ⟨fun z => absurd z y0, fun _ => hG _⟩, fun z => absurd z z10⟩
  · refine c_masterNo hx ⟨fun _ => ?_, fun r4 z => by cases z⟩
    unfold w_X7_row
    exact r_port0 hx ⟨fun z => absurd rfl z, fun _ => hG _⟩
end GQ
