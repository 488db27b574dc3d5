section GM
variable {K : MK} {R : MR} {I J : MI} {t r b : Nat} {S : St}
theorem r_answered {Q : Int32 → MI → Prop} {m : Nat} {z : Int32} (hR : RT K R r I S) (hS : InvS S.σ) (hm : m < 4) (h0 : z = 0 → Q (nI (ansN S.σ m)) I) (h1 : z ≠ 0 → Q (lonL S.σ m (ix (S.σ 4))) I) : w_X7_answered K R r (nI m) z I Q := by
  obtain ⟨hA4, hA⟩ := hS.A4
  have hM := hR.1
  have hσ := hR.2.1
  unfold w_X7_answered w_X7_answered_b9
  intro X hX
  have key : ∀ d k, k + d = ix (S.σ 4) → X (nI (cnt (ansB3 S.σ m) k)) (lonL S.σ m k) (nI k) I := by
    intro d
    induction d with
    | zero =>
      intro k hk
      refine hX _ _ _ _ ?_
      have hk2 : k = ix (S.σ 4) := by omega
      unfold w_X7_answered_b9_body w_X7_answered_b105
      rw [hσ, hA4, ← hk2]
      refine ⟨hM, fun _ => ⟨fun z => ?_, fun z => ?_⟩, fun z => absurd (Int32.le_refl _) z⟩
      · rw [hk2]; exact h0 z
      · rw [hk2]; exact h1 z
    | succ d ih =>
      intro k hk
      refine hX _ _ _ _ ?_
      have hle : ¬ ix (S.σ 4) ≤ k := by omega
      have ih1 := ih (k + 1) (by omega)
      unfold lonL at ih1
      have e1 : ∀ k, I (r + 1) k = S.σ k := fun k => by rw [hσ]
      unfold w_X7_answered_b9_body w_X7_answered_b87 w_X7_answered_b89
      rw [e1 4, hA4]
      simp (disch := omega) only [e1, nI_leI', hle, of_l0, of_l4, of_l8, vpT, ix_nI, nr_1, false_implies, true_and, not_false_iff, true_implies]
      refine ⟨hM, fun c => ?_, fun c => ⟨fun c2 => ?_, fun c2 => ⟨fun c3 => ?_, fun c3 => ?_⟩⟩⟩
      · have hb : ansB3 S.σ m k = false := by unfold ansB3; rw [beq_eq_false_iff_ne.mpr c]; rfl
        rw [cnt_f hb, if_neg (by rw [hb]; simp)] at ih1
        exact ih1
      · have hb : ansB3 S.σ m k = false := by unfold ansB3; rw [beq_eq_false_iff_ne.mpr c2]; simp
        rw [cnt_f hb, if_neg (by rw [hb]; simp)] at ih1
        exact ih1
      · have hb : ansB3 S.σ m k = true := by unfold ansB3; rw [c, c2]; simp
        rw [cnt_t hb, if_neg (fun z => Int32.not_lt.mpr c3 z.2)] at ih1
        exact ih1
      · have hb : ansB3 S.σ m k = true := by unfold ansB3; rw [c, c2]; simp
        rw [cnt_t hb, if_pos ⟨hb, Int32.not_le.mp c3⟩] at ih1
        exact ih1
  exact key (ix (S.σ 4)) 0 (by omega)
theorem r_holdsT {Q : Int32 → MI → Prop} {m : Nat} (hR : RT K R r I S) (hS : InvS S.σ) (hm : m < 4) (h : Q (nI (holdsN S.σ m)) I) : w_X7_holds K R r (nI m) I Q := by
  have e : stS I r S.σ = I := by rw [← hR.2.1, stS_self]
  have := ref_holds (I := I) (Q := Q) hR.1 hS hm (by rw [e]; exact h)
  rw [e] at this
  exact this
theorem max0 (d : Int32) : (if (0 : Int32) < d then d else 0) = (if (0 : Int32) ≤ d then d else 0) := by
  by_cases c : (0 : Int32) < d
  · rw [if_pos c, if_pos (Int32.le_of_lt c)]
  · rw [if_neg c]
    by_cases c2 : (0 : Int32) ≤ d
    · rw [if_pos c2]
      exact Int32.le_antisymm c2 (Int32.not_lt.mp c)
    · rw [if_neg c2]
theorem p_master {G : Int32 → Int32 → MI → Prop} {x y : Int32} (hC : CT K R t I S) (hR : RT K R r I S) (hG : ∀ v, G v v I) : w_X6_master K R t x y I (fun v I1 => w_X7_master K R r x y I1 (fun v' I2 => G v v' I2)) := by
  have hT := hC.1
  have hB := hT.o0
  have hS := hC.2.1.1
  have hM := hR.1
  unfold w_X6_master w_X6_master_b139
  refine ⟨hT, ?_⟩
  rcases Gt_or (n := 4) x with ⟨m, hm, rfl⟩ | hx
  · refine c_masterAt hB hm ⟨fun z => (by cases z), fun r4 e4 => ?_⟩
    cases e4
    have hMs := hB.p2 (i := m) hm
    obtain ⟨cn1, cn2, cn3⟩ := hC.2.1.2.2.2.2 m hm
    have rd : ∀ w s, slotO (6 + 3 * m) s = some (21 + 11 * m + w) → w < 11 → I (t + 1 + 6 + 3 * m) s = S.σ (21 + 11 * m + w) := fun w s hs hw => hC.rd hs (by omega) (by omega) (by omega) (by omega)
    have rx : ∀ k s, slotO (6 + 3 * m) s = some k → I (t + 1 + 6 + 3 * m) s = rowB I (t + 1) k := fun k s hs => by
      have := stB_at (J := I) (ρ := rowB I (t + 1)) (a := t + 1 + 6 + 3 * m) (b := t + 1) hs (by omega)
      rw [stB_self] at this
      exact this
    have e0 : I (t + 1 + 6 + 3 * m + 1) 1 = S.σ (21 + 11 * m + 0) := hC.rd (so_ml m hm) (by omega) (by omega) (by omega) (by omega)
    have e1 := rd 7 1 (so_m1 m hm) (by omega)
    have e2 : I (t + 1 + 6 + 3 * m) 2 = nI (holdsN S.σ m) := by rw [rx _ _ (so_m2 m hm)]; exact cn1
    have e3 := rd 8 3 (so_m3 m hm) (by omega)
    have e4 := rd 9 4 (so_m4 m hm) (by omega)
    have e5 := rd 10 5 (so_m5 m hm) (by omega)
    have e6 : I (t + 1 + 6 + 3 * m) 6 = nI (ansN S.σ m) := by rw [rx _ _ (so_m6 m hm)]; exact cn2
    have e7 : I (t + 1 + 6 + 3 * m) 7 = lonL S.σ m (ix (S.σ 4)) := by rw [rx _ _ (so_m7 m hm)]; exact cn3
    have e8 : I (t + 1) 6 = S.σ 0 := bus6 hC.2.1
    have e9 : I (t + 1 + 1) 2 = S.σ 3 := hC.rd (so_set 2 (by omega)) (by omega) (by omega) (by omega) (by omega)
    have er : ∀ k, I (r + 1) k = S.σ k := fun k => by rw [hR.2.1]
    have start : ∀ (V x2 : Int32), (vp_in (nI (21 + 11 * m + 10)) 2361 → ((x2 = (0:Int32) → G V (S.σ (21 + 11 * m + 0)) I) ∧ (x2 = (1:Int32) → G V (S.σ (21 + 11 * m + 7)) I) ∧ (x2 = (2:Int32) → G V (nI (holdsN S.σ m)) I) ∧ (x2 = (3:Int32) → G V (S.σ (21 + 11 * m + 8)) I) ∧ (x2 = (4:Int32) → G V (if (0 : Int32) ≤ S.σ (21 + 11 * m + 9) - S.σ 0 then S.σ (21 + 11 * m + 9) - S.σ 0 else 0) I) ∧ (x2 = (5:Int32) → G V (S.σ (21 + 11 * m + 10)) I) ∧ (x2 = (6:Int32) → G V (nI (ansN S.σ m)) I) ∧ (x2 = (7:Int32) → G V (lonL S.σ m (ix (S.σ 4))) I) ∧ (x2 = (8:Int32) → G V (if S.σ (21 + 11 * m + 10) < S.σ 3 then 0 else 1) I) ∧ (x2.toInt < 0 ∨ 8 < x2.toInt → G V (-2) I))) → w_X7_master K R r (nI m) x2 I (fun v' I2 => G V v' I2) := by
      intro V x2 h
      obtain ⟨h0, h1, h2, h3, h4, h5, h6, h7, h8, h9⟩ := h (vp_in_nI (by omega) (by decide))
      unfold w_X7_master w_X7_master_b144 w_X7_master_b147 w_X7_master_b160 w_X7_master_b179
      refine r_port1 hm ⟨fun _ => ⟨hM, ?_⟩, fun z => absurd z z10⟩
      simp (disch := omega) only [ofM_l0, ofM_l7, ofM_l8, ofM_l9, ofM_l10, vpT, ix_nI, er, true_and]
      refine ⟨h0, h1, fun e => r_holdsT hR hS hm (h2 e), h3, fun e => ⟨fun c => ?_, fun c => ?_⟩, h5, fun e => ⟨fun c => ⟨hM, r_answered hR hS hm (fun _ => h6 e) (fun z => absurd rfl z)⟩, fun c => absurd (e ▸ c) (by decide)⟩, fun e => ⟨fun c => absurd e c, fun c => ⟨hM, r_answered hR hS hm (fun z => absurd z (by decide)) (fun _ => h7 e)⟩⟩, fun e => ⟨fun c => ?_, fun c => ?_⟩, h9⟩
      · have := h4 e
        rw [if_pos c] at this
        exact this
      · have := h4 e
        rw [if_neg c] at this
        exact this
      · have := h8 e
        rw [if_pos c] at this
        exact this
      · have := h8 e
        rw [if_neg c] at this
        exact this
    have ne : ∀ (a c : Int32) (P : Prop), a ≠ c → (a = c → P) := fun a c P h e => absurd e h
    have nd : ∀ (a : Int32) (P : Prop), ((0 : Int32) ≤ a ∧ a ≤ 8) → (a.toInt < 0 ∨ 8 < a.toInt → P) := fun a P h e => absurd h (sw_no (n := 8) (by decide) e)
    refine ⟨fun e => ⟨hMs, ?_⟩, fun e => ⟨hMs, ?_⟩, fun e => ⟨hMs, ?_⟩, fun e => ⟨hMs, ?_⟩, fun e => ⟨hMs, ?_⟩, fun e => ⟨hMs, ?_⟩, fun e => ⟨hMs, ?_⟩, fun e => ⟨hMs, ?_⟩, fun e => ?_, fun e => ?_⟩
    · subst e; rw [e0]
      exact start _ _ (fun _ => ⟨fun _ => hG _, ne _ _ _ (by decide), ne _ _ _ (by decide), ne _ _ _ (by decide), ne _ _ _ (by decide), ne _ _ _ (by decide), ne _ _ _ (by decide), ne _ _ _ (by decide), ne _ _ _ (by decide), nd _ _ (by decide)⟩)
    · subst e; rw [e1]
      exact start _ _ (fun _ => ⟨ne _ _ _ (by decide), fun _ => hG _, ne _ _ _ (by decide), ne _ _ _ (by decide), ne _ _ _ (by decide), ne _ _ _ (by decide), ne _ _ _ (by decide), ne _ _ _ (by decide), ne _ _ _ (by decide), nd _ _ (by decide)⟩)
    · subst e; rw [e2]
      exact start _ _ (fun _ => ⟨ne _ _ _ (by decide), ne _ _ _ (by decide), fun _ => hG _, ne _ _ _ (by decide), ne _ _ _ (by decide), ne _ _ _ (by decide), ne _ _ _ (by decide), ne _ _ _ (by decide), ne _ _ _ (by decide), nd _ _ (by decide)⟩)
    · subst e; rw [e3]
      exact start _ _ (fun _ => ⟨ne _ _ _ (by decide), ne _ _ _ (by decide), ne _ _ _ (by decide), fun _ => hG _, ne _ _ _ (by decide), ne _ _ _ (by decide), ne _ _ _ (by decide), ne _ _ _ (by decide), ne _ _ _ (by decide), nd _ _ (by decide)⟩)
    · subst e
      have e' : (if (0:Int32) < I (t + 1 + 6 + 3 * m) 4 - I (t + 1) 6 then I (t + 1 + 6 + 3 * m) 4 - I (t + 1) 6 else (0:Int32)) = (if (0 : Int32) ≤ S.σ (21 + 11 * m + 9) - S.σ 0 then S.σ (21 + 11 * m + 9) - S.σ 0 else 0) := by rw [e4, e8]; exact max0 _
      rw [e']
      exact start _ _ (fun _ => ⟨ne _ _ _ (by decide), ne _ _ _ (by decide), ne _ _ _ (by decide), ne _ _ _ (by decide), fun _ => hG _, ne _ _ _ (by decide), ne _ _ _ (by decide), ne _ _ _ (by decide), ne _ _ _ (by decide), nd _ _ (by decide)⟩)
    · subst e; rw [e5]
      exact start _ _ (fun _ => ⟨ne _ _ _ (by decide), ne _ _ _ (by decide), ne _ _ _ (by decide), ne _ _ _ (by decide), ne _ _ _ (by decide), fun _ => hG _, ne _ _ _ (by decide), ne _ _ _ (by decide), ne _ _ _ (by decide), nd _ _ (by decide)⟩)
    · subst e; rw [e6]
      exact start _ _ (fun _ => ⟨ne _ _ _ (by decide), ne _ _ _ (by decide), ne _ _ _ (by decide), ne _ _ _ (by decide), ne _ _ _ (by decide), ne _ _ _ (by decide), fun _ => hG _, ne _ _ _ (by decide), ne _ _ _ (by decide), nd _ _ (by decide)⟩)
    · subst e; rw [e7]
      exact start _ _ (fun _ => ⟨ne _ _ _ (by decide), ne _ _ _ (by decide), ne _ _ _ (by decide), ne _ _ _ (by decide), ne _ _ _ (by decide), ne _ _ _ (by decide), ne _ _ _ (by decide), fun _ => hG _, ne _ _ _ (by decide), nd _ _ (by decide)⟩)
    · subst e
      have fin : ∀ V, V = (if S.σ (21 + 11 * m + 10) < S.σ 3 then (0 : Int32) else 1) → w_X7_master K R r (nI m) 8 I (fun v' I2 => G V v' I2) := fun V eV => by
        subst eV
        exact start _ _ (fun _ => ⟨ne _ _ _ (by decide), ne _ _ _ (by decide), ne _ _ _ (by decide), ne _ _ _ (by decide), ne _ _ _ (by decide), ne _ _ _ (by decide), ne _ _ _ (by decide), ne _ _ _ (by decide), fun _ => hG _, nd _ _ (by decide)⟩)
      unfold w_X0_isOutOfPatience w_X0_isOutOfPatience_b18
      simp only [Option.some.injEq, exists_eq_left', e5, e9]
      exact ⟨hMs, hB, fun c => ⟨bz0, fun _ => fin _ (by rw [if_pos c]), fun z => absurd trivial z⟩, fun c => ⟨bz1, fun z => absurd z z10, fun _ => fin _ (by rw [if_neg c])⟩⟩
    · have nx : ∀ k : Nat, k < 9 → y ≠ nI k := fun k hk z => sw_no (n := 8) (by decide) e ((in_idx (by decide)).mpr ⟨k, hk, z⟩)
      exact start _ _ (fun _ => ⟨ne _ _ _ (nx 0 (by omega)), ne _ _ _ (nx 1 (by omega)), ne _ _ _ (nx 2 (by omega)), ne _ _ _ (nx 3 (by omega)), ne _ _ _ (nx 4 (by omega)), ne _ _ _ (nx 5 (by omega)), ne _ _ _ (nx 6 (by omega)), ne _ _ _ (nx 7 (by omega)), ne _ _ _ (nx 8 (by omega)), fun _ => hG _⟩)
  · refine c_masterNo hx ⟨fun _ => ?_, fun r4 z => by cases z⟩
    unfold w_X7_master
    exact r_port0 hx ⟨fun z => absurd rfl z, fun _ => hG _⟩
end GM
