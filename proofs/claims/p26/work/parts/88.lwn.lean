section LN
variable {K : MK} {R : MR} {I J : MI} {t B : Nat} {S : St} {Q : Int32 → MI → Prop} {σ : Sr}
theorem tkN_1 (σ : Sr) : tkN σ 1 = tickS σ := rfl
theorem wσ_s (S : St) (τ : Sr) : (S.wσ τ).σ = τ := rfl
/-- ticks pass, something is seen, they are taken back -/
theorem undo_P {n : Nat} {τ : Sr} (hC : CT K R t I (S.rec'.wσ τ)) (hc : S.c ≤ 4) (h : ∀ v I' S', CT K R t I' S' → S'.σ = S.σ → Q v I') : w_X6_undo K R t I Q := by
  obtain ⟨c1, c2⟩ := rec_c S hc
  exact k_undo hC c1 (fun v I' h' => h v I' _ h' c2)
theorem k_isNext (hC : CT K R t I S) (hJ : Jn B S.σ) (hB : B ≤ 9000) (hG : ∀ I' S', CT K R t I' S' → S'.σ = S.σ → Q 1 I') : w_L_isNextSo K R (some t) I Q := by
  have hT := hC.1
  have hS := hC.2.1.1
  have hA := hS.A4.2
  have hc := hC.2.2.2.2.2.1.1
  obtain ⟨h1, h2, h3, b, hb, eb⟩ := hJ
  obtain ⟨t1, t2, t3, t4, t5⟩ := tick_P hS h2 h3
  have bd : ∃ b, b ≤ 9000 ∧ S.σ 0 = nI b := ⟨b, by omega, eb⟩
  have e4 : tickS S.σ 4 = S.σ 4 := tick_4' hS
  have hQK := tickQ_K hS
  unfold w_L_isNextSo
  refine ⟨t, rfl, hT, k_next hC (Or.inl rfl) (fun I2 hC2 => ?_)⟩
  rw [if_pos rfl]
  refine k_next hC2 (Or.inr rfl) (fun I3 hC3 => ?_)
  rw [if_neg z10]
  have und : ∀ (z : Int32) I', z = 1 → CT K R t I' (S.rec'.wσ (tickS S.σ)) → w_X6_undo K R t I' (fun v4 I3 => bz z ∧ Q z I3) := fun z I' ez hC' => by
    subst ez
    exact undo_P (n := 1) hC' hc (fun v I'' S' a e => ⟨bz1, hG _ _ a e⟩)
  unfold TrR at t5
  rcases t5 with ⟨k1, k2⟩ | ⟨q, q1, q2, q3⟩
  · rw [k1, k2]
    rw [if_pos k1] at t4
    refine ⟨fun z => absurd rfl z, fun _ => k_n9 hC3 ⟨fun z => absurd rfl z, fun _ => k_pass (n := 1) hC3 bd (by omega) (by omega) (fun I4 hC4 => ?_)⟩⟩
    rw [tkN_1] at hC4
    have m0 : mvN S.σ 1 = 0 := by
      show (if tickQ (tkN S.σ 0) = -5 then mvN S.σ 0 else mvN S.σ 0 + 1) = 0
      show (if tickQ S.σ = -5 then 0 else 0 + 1) = 0
      rw [if_pos k2]
    rw [m0]
    unfold w_L_isNextSo_b56
    refine ⟨fun z => absurd rfl z, fun _ => k_n9 hC4 ⟨fun z => absurd (by rw [wσ_s]; exact t4) z, fun _ => ⟨t, rfl, hT, und 1 I4 rfl hC4⟩⟩⟩
  · have m1 : mvN S.σ 1 = 1 := by
      show (if tickQ S.σ = -5 then 0 else 0 + 1) = 1
      rw [if_neg (by rw [q2]; exact nI_ne5 (by omega))]
    have hk5 : tickK S.σ ≠ -5 := by
      rcases q3 with ⟨e, -⟩ | ⟨e, -⟩ | ⟨e, -⟩ <;> rw [e] <;> decide
    rw [q2]
    refine ⟨fun _ => k_q8 hC3 q1 (k_pass (n := 1) hC3 bd (by omega) (by omega) (fun I4 hC4 => ?_)), fun z => absurd z hk5⟩
    rw [m1]
    rw [tkN_1] at hC4
    have q1' : q < ix ((S.rec'.wσ (tickS S.σ)).σ 4) := by
      rw [wσ_s, e4]; exact q1
    have g4 : ∀ z, tickS S.σ (161 + 11 * q + 4) = z → (S.rec'.wσ (tickS S.σ)).σ (161 + 11 * q + 4) = z := fun z e => by rw [wσ_s]; exact e
    have g9 : ∀ z, tickS S.σ (161 + 11 * q + 9) = z → (S.rec'.wσ (tickS S.σ)).σ (161 + 11 * q + 9) = z := fun z e => by rw [wσ_s]; exact e
    have un : w_L_isNextSo_b137 K R (some t) Q 1 I4 := by
      unfold w_L_isNextSo_b137
      exact ⟨t, rfl, hT, und 1 I4 rfl hC4⟩
    refine ⟨fun z => absurd rfl z, fun _ => k_q4 hC4 q1' ?_⟩
    unfold w_L_isNextSo_b107 w_L_isNextSo_b128
    rcases q3 with ⟨e, w4, w9⟩ | ⟨e, w4, w9⟩ | ⟨e, w4, w9⟩
    · rw [g4 _ w4, e]
      refine ⟨fun z => absurd rfl z, fun _ => ⟨fun z => absurd rfl z, fun _ => ⟨t, rfl, hT, k_q8 hC4 q1' ?_⟩⟩⟩
      rw [g9 _ w9]
      exact ⟨fun _ => ⟨fun z => absurd (i32_add0 _).symm z, fun _ => un⟩, fun z => absurd z (by decide)⟩
    · rw [g4 _ w4, e]
      refine ⟨fun _ => ⟨fun z => absurd rfl z, fun _ => ⟨fun z => absurd rfl z, fun _ => ⟨t, rfl, hT, k_q8 hC4 q1' ?_⟩⟩⟩, fun z => absurd z (by decide)⟩
      rw [g9 _ w9]
      exact ⟨fun _ => ⟨fun z => absurd (i32_add0 _).symm z, fun _ => un⟩, fun z => absurd z (by decide)⟩
    · rw [g4 _ w4, e]
      refine ⟨fun _ => ⟨fun _ => ⟨fun z => absurd rfl z, fun _ => ⟨t, rfl, hT, k_q8 hC4 q1' ?_⟩⟩, fun z => absurd z (by decide)⟩, fun z => absurd z (by decide)⟩
      rw [g9 _ w9]
      exact ⟨fun z => absurd rfl z, fun _ => ⟨fun z => absurd rfl z, fun _ => un⟩⟩
/-- what is answered stays so -/
theorem k_isAnswered {q : Nat} (hC : CT K R t I S) (hJ : Jn B S.σ) (hB : B ≤ 9000) (hq : q < ix (S.σ 4)) (hG : ∀ I' S', CT K R t I' S' → S'.σ = S.σ → Q 1 I') : w_L_isAnsweredSo K R (some t) (nI q) I Q := by
  have hT := hC.1
  have hS := hC.2.1.1
  have hA := hS.A4.2
  have hc := hC.2.2.2.2.2.1.1
  obtain ⟨h1, h2, h3, b, hb, eb⟩ := hJ
  have bd : ∃ b, b ≤ 9000 ∧ S.σ 0 = nI b := ⟨b, by omega, eb⟩
  have hw := h1 q hq
  unfold w_L_isAnsweredSo w_L_isAnsweredSo_b27 w_L_isAnsweredSo_b39 w_L_isAnsweredSo_b51 w_L_isAnsweredSo_b56
  refine ⟨t, rfl, hT, k_answeredIn hC hq (fun e => k_q4 hC hq ?_) (fun e3 e4 v I2 hC2 hv => k_q4 hC2 hq ?_)⟩
  · have h3 : ¬ S.σ (161 + 11 * q + 4) ≤ 2 := by rcases e with e | e <;> rw [e] <;> decide
    exact ⟨fun z => absurd z h3, fun _ => ⟨fun z => absurd rfl z, fun _ => ⟨bz1, hG _ _ hC rfl⟩⟩⟩
  · have h3 : S.σ (161 + 11 * q + 4) ≤ 2 := by
      rcases hw with e | e | e | e | e
      · rw [e]; decide
      · rw [e]; decide
      · rw [e]; decide
      · exact absurd e e3
      · exact absurd e e4
    refine ⟨fun _ => ?_, fun z => absurd h3 z⟩
    rcases hv with rfl | ⟨n, n1, n999, rfl, w3, wno⟩
    · exact ⟨fun _ => ⟨fun z => absurd z (by decide), fun _ => ⟨fun z => absurd rfl z, fun _ => ⟨bz1, hG _ _ hC2 rfl⟩⟩⟩, fun z => absurd (by decide) z⟩
    · refine ⟨fun z => absurd ((nI_ltI (b := 1) (by omega) (by omega)).mp z) (by omega), fun _ => ⟨fun c => ?_, fun c => ?_⟩⟩
      · have n99 : n ≤ 99 := (nI_leI (b := 99) (by omega) (by omega)).mp c
        refine k_pass hC2 bd n1 n99 (fun I3 hC3 => ?_)
        have q3 : q < ix ((S.rec'.wσ (tkN S.σ n)).σ 4) := by
          show q < ix (tkN S.σ n 4)
          rw [tkN_4 hS]; exact hq
        have g4 : (S.rec'.wσ (tkN S.σ n)).σ (161 + 11 * q + 4) = 3 := w3
        refine k_q4 hC3 q3 ?_
        rw [g4]
        refine ⟨fun z => absurd rfl z, fun _ => ?_⟩
        unfold w_L_isAnsweredSo_b78 w_L_isAnsweredSo_b122 w_L_isAnsweredSo_b115 w_L_isAnsweredSo_b116
        refine ⟨t, rfl, hT, undo_P (n := n) hC3 hc (fun v I4 S4 hC4 eS => ⟨fun _ => ⟨bz1, hG _ _ hC4 eS⟩, fun z => ?_⟩)⟩
        have n2 : 2 ≤ n := by
          rcases Nat.lt_or_ge n 2 with c2 | c2
          · exact absurd ((nI_leI (b := 1) (by omega) (by omega)).mpr (by omega)) z
          · exact c2
        rw [nI_sub1 n1]
        refine k_pass (n := n - 1) hC4 (by rw [eS]; exact bd) (by omega) (by omega) (fun I5 hC5 => ⟨fun z => absurd z z10, fun _ => ?_⟩)
        have q5 : q < ix ((S4.rec'.wσ (tkN S4.σ (n - 1))).σ 4) := by
          show q < ix (tkN S4.σ (n - 1) 4)
          rw [eS, tkN_4 hS]; exact hq
        have g5 : (S4.rec'.wσ (tkN S4.σ (n - 1))).σ (161 + 11 * q + 4) ≠ 3 := by
          show tkN S4.σ (n - 1) (161 + 11 * q + 4) ≠ 3
          rw [eS]; exact wno (n - 1) (by omega)
        refine k_q4 hC5 q5 ⟨fun z => absurd z g5, fun _ => ⟨t, rfl, hT, undo_P (n := n) hC5 hC4.2.2.2.2.2.1.1 (fun v I6 S6 hC6 eS6 => ⟨bz1, hG _ _ hC6 (eS6.trans eS)⟩)⟩⟩
      · have n99 : 99 < n := by
          rcases Nat.lt_or_ge 99 n with c2 | c2
          · exact c2
          · exact absurd ((nI_leI (b := 99) (by omega) (by omega)).mpr c2) c
        exact ⟨fun _ => ⟨bz1, hG _ _ hC2 rfl⟩, fun z => absurd ((nI_ltI (a := 99) (by omega) (by omega)).mpr n99) z⟩
end LN
