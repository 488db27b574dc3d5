section RW
variable {K : MK} {R : MR} {I J : MI} {t r b : Nat} {S : St}
theorem r_room {Q : Int32 → MI → Prop} {m : Nat} (hR : RT K R r I S) (hS : InvS S.σ) (hm : m < 4) (h1 : loN S.σ m < 6 ∧ ix (S.σ 4) < 200 → Q 1 I) (h0 : ¬ (loN S.σ m < 6 ∧ ix (S.σ 4) < 200) → Q 0 I) : w_X7_isRoom K R r (nI m) I Q := by
  obtain ⟨hA4, hA⟩ := hS.A4
  obtain ⟨h6, er, -⟩ := hS.rows hm
  unfold w_X7_isRoom w_X7_isRoom_b31 w_X7_isRoom_b32
  rw [ofM_l0, ix_nI (by omega), hR.2.1, er, hA4]
  refine ⟨hR.1, vp_in_nI (by omega) (by decide), fun c => ⟨bz0, h0 fun z => ?_⟩, fun c => ⟨fun d => ⟨bz0, h0 fun z => ?_⟩, fun d => ⟨bz1, h1 ⟨?_, ?_⟩⟩⟩⟩
  · have := (nI_leI (a := 6) (by omega) (by omega)).mp c; omega
  · have := (nI_leI (a := 200) (by omega) (by omega)).mp d; omega
  · rcases Nat.lt_or_ge (loN S.σ m) 6 with z | z
    · exact z
    · exact absurd ((nI_leI (a := 6) (by omega) (by omega)).mpr z) c
  · rcases Nat.lt_or_ge (ix (S.σ 4)) 200 with z | z
    · exact z
    · exact absurd ((nI_leI (a := 200) (by omega) (by omega)).mpr z) d
theorem p_putOne {G : Int32 → Int32 → MI → Prop} {W : MI → (Int32 → MI → Prop) → Prop} {m t' a : Nat} {y : Int32} (hd : t + 1681 ≤ r) (hC : CT K R t I S) (hR : RT K R r I S) (hW : WS S) (hG : ∀ v I', Rel2 K R t r I' → G v v I') (hm : m < 4) (ht : t' < 4) (ha : a < 16) (hWW : ∀ I1 Q, RT K R r I1 S → w_X7_isRoom K R r (nI m) I1 (fun v9 I8 => ((¬ v9 = 0 → w_X7_know K R r I8 (fun I10 => w_X7_put K R r (nI m) (nI t') (nI a) y I10 (fun v12 I11 => Q v12 I11))) ∧ (v9 = 0 → Q (-3) I8))) → W I1 Q) : w_X6_putOne K R t (nI m) (nI t') (nI a) y I (fun v I1 => W I1 (fun v' I2 => G v v' I2)) := by
  have hT := hC.1
  have hB := hT.o0
  have hS := hC.2.1.1
  have hRL : Rel2 K R t r I := ⟨S, hC, hR, hW⟩
  obtain ⟨hA4, hA⟩ := hS.A4
  obtain ⟨h6, er, -⟩ := hS.rows hm
  have e1 : I (t + 1 + 6 + 3 * m + 1) 1 = nI (loN S.σ m) := by rw [hC.rd (so_ml m hm) (by omega) (by omega) (by omega) (by omega)]; exact er
  obtain ⟨b5, bA⟩ := bus5 hC.2.1
  have no : ∀ V, ¬ (loN S.σ m < 6 ∧ ix (S.σ 4) < 200) → V = -3 → W I (fun v' I2 => G V v' I2) := fun V h eV => by
    subst eV
    exact hWW _ _ hR (r_room hR hS hm (fun z => absurd z h) (fun _ => ⟨fun z => absurd rfl z, fun _ => hG _ _ hRL⟩))
  unfold w_X6_putOne w_X6_putOne_b26 w_X6_putOne_b66
  refine ⟨hT, c_masterAt hB hm ⟨fun z => (by cases z), fun r4 e4 => ?_⟩⟩
  cases e4
  refine c_targetAt hB ht ⟨fun z => (by cases z), fun r7 e7 => ?_⟩
  cases e7
  refine c_idx1 (n := 16) ha (by decide) ⟨fun _ => ⟨hB.p2 hm, fun c => no _ (fun z => ?_) rfl, fun c => ⟨fun c2 => ?_, fun c2 => no _ (fun z => ?_) rfl⟩⟩, fun z => absurd z z10⟩
  · rw [e1] at c
    have := (nI_leI (a := 6) (by omega) (by omega)).mp c; omega
  · rw [e1] at c
    rw [b5] at c2
    have l6 : loN S.σ m < 6 := by
      rcases Nat.lt_or_ge (loN S.σ m) 6 with z | z
      · exact z
      · exact absurd ((nI_leI (a := 6) (by omega) (by omega)).mpr z) c
    have a200 : ix (S.σ 4) < 200 := (nI_ltI (b := 200) (by omega) (by omega)).mp c2
    refine c_record hC (fun I3 hC3 f3 => ?_)
    have hrel := hC3.2.1
    rw [rec_σ] at hrel
    have h := c_put (K := K) (R := R) (J := I3) (b := t + 1) (ρ := rowB I3 (t + 1)) (σ := S.σ) (A := ix (S.σ 4)) (L := loN S.σ m) (m := m) (x1 := nI t') (x2 := nI a) (x3 := y) (Q := fun v I1 => W I1 (fun v' I2 => G v v' I2)) hB hrel rfl a200 hm rfl l6 ⟨t', ht, rfl⟩ ⟨a, ha, rfl⟩ (fun ρ' hρ' => ?_)
    · rw [stB_self] at h
      exact h
    · have hC4 := hC3.w hρ'
      have hf : FrC t I (stB I3 (t + 1) ρ') := f3.trans FrC_stB
      have hR4 := hR.ofC hd hf
      refine hWW _ _ hR4 (r_room hR4 hS hm (fun _ => ⟨fun _ => r_know hR4 (fun I5 hR5 f5 => ?_), fun z => absurd z z10⟩) (fun z => absurd ⟨l6, a200⟩ z))
      have e5 : stS I5 r S.σ = I5 := by
        have := hR5.2.1
        rw [rec_σ] at this
        rw [← this, stS_self]
      have hp := r_put (K := K) (R := R) (I := I5) (r := r) (σ := S.σ) (A := ix (S.σ 4)) (L := loN S.σ m) (m := m) (x1 := nI t') (x2 := nI a) (x3 := y) (Q := fun v' I2 => G (nI (ix (S.σ 4))) v' I2) hR5.1 hS rfl a200 hm rfl l6 (hG _ _ ⟨_, hC4.ofR hd (f5.trans FrR_stS), hR5.w, hW.r.w (put_wok hW.1 rfl a200 hm l6)⟩)
      rw [e5] at hp
      exact hp
  · rw [b5] at c2
    exact c2 ((nI_ltI (b := 200) (by omega) (by omega)).mpr z.2)
theorem c_putOneNo {Q : Int32 → MI → Prop} {x y z w : Int32} (hT : IsTag K R t) (h1 : (∀ m, m < 4 → x ≠ nI m) ∨ (∀ m, m < 4 → y ≠ nI m) → Q (-1) I) (h2 : (∃ m, m < 4 ∧ x = nI m) → (∃ m, m < 4 ∧ y = nI m) → (∀ a, a < 16 → z ≠ nI a) → Q (-2) I) (h3 : ¬ ((∃ m, m < 4 ∧ x = nI m) ∧ (∃ m, m < 4 ∧ y = nI m) ∧ ∃ a, a < 16 ∧ z = nI a)) : w_X6_putOne K R t x y z w I Q := by
  have hB := hT.o0
  unfold w_X6_putOne w_X6_putOne_b26
  refine ⟨hT, ?_⟩
  rcases Gt_or (n := 4) x with ⟨m, hm, rfl⟩ | hx
  · refine c_masterAt hB hm ⟨fun z => (by cases z), fun r4 e4 => ?_⟩
    cases e4
    rcases Gt_or (n := 4) y with ⟨m', hm', rfl⟩ | hy
    · refine c_targetAt hB hm' ⟨fun z => (by cases z), fun r4 e4 => ?_⟩
      cases e4
      rcases Gt_or (n := 16) z with ⟨a, ha, rfl⟩ | hz
      · exact absurd ⟨⟨m, hm, rfl⟩, ⟨m', hm', rfl⟩, a, ha, rfl⟩ h3
      · exact c_idxN (n := 16) (by decide) hz ⟨fun q => absurd rfl q, fun _ => h2 ⟨m, hm, rfl⟩ ⟨m', hm', rfl⟩ hz⟩
    · exact c_targetNo hy ⟨fun _ => h1 (Or.inr hy), fun r4 z => by cases z⟩
  · exact c_masterNo hx ⟨fun _ => h1 (Or.inl hx), fun r4 z => by cases z⟩
theorem p_read {G : Int32 → Int32 → MI → Prop} {x y z : Int32} (hd : t + 1681 ≤ r) (hC : CT K R t I S) (hR : RT K R r I S) (hW : WS S) (hG : ∀ v I', Rel2 K R t r I' → G v v I') : w_X6_read K R t x y z I (fun v I1 => w_X7_read K R r x y z I1 (fun v' I2 => G v v' I2)) := by
  have hT := hC.1
  have hRL : Rel2 K R t r I := ⟨S, hC, hR, hW⟩
  have in15 : ∀ z : Int32, ((0 : Int32) ≤ z ∧ z ≤ 15) ↔ ∃ m, m < 16 ∧ z = nI m := fun z => in_idx (n := 15) (by decide)
  unfold w_X6_read
  refine ⟨hT, ?_⟩
  by_cases h3 : ((∃ m, m < 4 ∧ x = nI m) ∧ (∃ m, m < 4 ∧ y = nI m) ∧ ∃ a, a < 16 ∧ z = nI a)
  · obtain ⟨⟨m, hm, rfl⟩, ⟨t', ht, rfl⟩, a, ha, rfl⟩ := h3
    refine p_putOne (W := fun I1 Q => w_X7_read K R r (nI m) (nI t') (nI a) I1 Q) hd hC hR hW hG hm ht ha (fun I1 Q hR1 h => ?_)
    unfold w_X7_read
    exact r_port1 hm ⟨fun q => absurd q z10, fun _ => r_port1 ht ⟨fun _ => r_in1 ((in15 _).mpr ⟨a, ha, rfl⟩) ⟨fun _ => ⟨hR1.1, h⟩, fun q => absurd q z10⟩, fun q => absurd q z10⟩⟩
  · refine c_putOneNo hT (fun h => ?_) (fun h1 h2 h => ?_) h3
    · unfold w_X7_read w_X7_read_b14
      rcases Gt_or (n := 4) x with ⟨m, hm, rfl⟩ | hx
      · rcases h with h | h
        · exact absurd rfl (h m hm)
        · exact r_port1 hm ⟨fun q => absurd q z10, fun _ => r_port0 h ⟨fun q => absurd rfl q, fun _ => hG _ _ hRL⟩⟩
      · exact r_port0 hx ⟨fun _ => hG _ _ hRL, fun q => absurd rfl q⟩
    · obtain ⟨m, hm, rfl⟩ := h1
      obtain ⟨t', ht, rfl⟩ := h2
      unfold w_X7_read
      refine r_port1 hm ⟨fun q => absurd q z10, fun _ => r_port1 ht ⟨fun _ => r_in0 (fun c => ?_) ⟨fun q => absurd rfl q, fun _ => hG _ _ hRL⟩, fun q => absurd q z10⟩⟩
      obtain ⟨j, hj, e⟩ := (in15 _).mp c
      exact h j hj e
theorem p_write {G : Int32 → Int32 → MI → Prop} {x y z w : Int32} (hd : t + 1681 ≤ r) (hC : CT K R t I S) (hR : RT K R r I S) (hW : WS S) (hG : ∀ v I', Rel2 K R t r I' → G v v I') : w_X6_write K R t x y z w I (fun v I1 => w_X7_write K R r x y z w I1 (fun v' I2 => G v v' I2)) := by
  have hT := hC.1
  have hB := hT.o0
  have hRL : Rel2 K R t r I := ⟨S, hC, hR, hW⟩
  have in15 : ∀ z : Int32, ((0 : Int32) ≤ z ∧ z ≤ 15) ↔ ∃ m, m < 16 ∧ z = nI m := fun z => in_idx (n := 15) (by decide)
  unfold w_X6_write w_X6_write_b22
  refine ⟨hT, ?_⟩
  rcases Gt_or (n := 4) x with ⟨m, hm, rfl⟩ | hx
  · refine c_masterAt hB hm ⟨fun z => (by cases z), fun r4 e4 => ?_⟩
    cases e4
    rcases Gt_or (n := 4) y with ⟨t', ht, rfl⟩ | hy
    · refine c_targetAt hB ht ⟨fun z => (by cases z), fun r4 e4 => ?_⟩
      cases e4
      refine c_in (fun c => ⟨fun _ => ?_, fun q => absurd q z10⟩) (fun c => ⟨fun q => absurd rfl q, fun _ => ?_⟩)
      · rcases Gt_or (n := 16) z with ⟨a, ha, rfl⟩ | hz
        · refine p_putOne (W := fun I1 Q => w_X7_write K R r (nI m) (nI t') (nI a) w I1 Q) hd hC hR hW hG hm ht ha (fun I1 Q hR1 h => ?_)
          unfold w_X7_write
          exact r_port1 hm ⟨fun q => absurd q z10, fun _ => r_port1 ht ⟨fun _ => r_in1 ((in15 _).mpr ⟨a, ha, rfl⟩) ⟨fun q => absurd q z10, fun _ => r_in1 c ⟨fun _ => ⟨hR1.1, h⟩, fun q => absurd q z10⟩⟩, fun q => absurd q z10⟩⟩
        · refine c_putOneNo hT (fun h => ?_) (fun h1 h2 h => ?_) (fun h => ?_)
          · rcases h with h | h
            · exact absurd rfl (h m hm)
            · exact absurd rfl (h t' ht)
          · unfold w_X7_write w_X7_write_b37
            refine r_port1 hm ⟨fun q => absurd q z10, fun _ => r_port1 ht ⟨fun _ => r_in0 (fun c => ?_) ⟨fun _ => hG _ _ hRL, fun q => absurd rfl q⟩, fun q => absurd q z10⟩⟩
            obtain ⟨j, hj, e⟩ := (in15 _).mp c
            exact hz j hj e
          · obtain ⟨-, -, a, ha, e⟩ := h
            exact hz a ha e
      · unfold w_X7_write w_X7_write_b37
        refine r_port1 hm ⟨fun q => absurd q z10, fun _ => r_port1 ht ⟨fun _ => ?_, fun q => absurd q z10⟩⟩
        by_cases h15 : ((0 : Int32) ≤ z ∧ z ≤ 15)
        · exact r_in1 h15 ⟨fun q => absurd q z10, fun _ => r_in0 c ⟨fun q => absurd rfl q, fun _ => hG _ _ hRL⟩⟩
        · exact r_in0 h15 ⟨fun _ => hG _ _ hRL, fun q => absurd rfl q⟩
    · refine c_targetNo hy ⟨fun _ => ?_, fun r4 z => by cases z⟩
      unfold w_X7_write w_X7_write_b14
      exact r_port1 hm ⟨fun q => absurd q z10, fun _ => r_port0 hy ⟨fun q => absurd rfl q, fun _ => hG _ _ hRL⟩⟩
  · refine c_masterNo hx ⟨fun _ => ?_, fun r4 z => by cases z⟩
    unfold w_X7_write w_X7_write_b14
    exact r_port0 hx ⟨fun _ => hG _ _ hRL, fun q => absurd rfl q⟩
end RW
