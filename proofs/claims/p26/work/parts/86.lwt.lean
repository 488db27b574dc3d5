/-! THE LAW'S OWN METHODS -/
def psum (f : Nat → Nat) : Nat → Nat
  | 0 => 0
  | n + 1 => psum f n + f n
theorem psum4 (f : Nat → Nat) : psum f 4 = sum4 f := by
  show 0 + f 0 + f 1 + f 2 + f 3 = f 0 + f 1 + f 2 + f 3
  rw [Nat.zero_add]
theorem cnt_split {b : Nat → Bool} {p : Nat → Nat → Bool} {N : Nat} (h : ∀ k, k < N → (b k = false → ∀ m, m < 4 → p m k = false) ∧ (b k = true → ∃ m, m < 4 ∧ p m k = true ∧ ∀ j, j < 4 → j ≠ m → p j k = false)) : ∀ n, n ≤ N → sum4 (fun m => cnt (p m) n) = cnt b n
  | 0, _ => rfl
  | n + 1, hn => by
    have ih := cnt_split h n (by omega)
    obtain ⟨h0, h1⟩ := h n (by omega)
    cases hb : b n with
    | false =>
      rw [cnt_f hb, ← ih]
      exact sum4_eq (fun j hj => cnt_f (h0 hb j hj))
    | true =>
      obtain ⟨m, hm, a, c⟩ := h1 hb
      rw [cnt_t hb, ← ih]
      exact sum4_one hm (cnt_t a) (fun j hj hne => cnt_f (c j hj hne))
section LT
variable {K : MK} {R : MR} {I J : MI} {t B : Nat} {S : St} {Q : Int32 → MI → Prop} {σ : Sr}
theorem lent_T (hS : InvS σ) : cnt (leB σ) (Tg_ σ) = cnt (leB σ) 8 := by
  obtain ⟨T, A, a1, a2, a3, a4, a5, a6, a7, a8, -⟩ := hS
  have hT : Tg_ σ = T := ix_eq a1 (by omega)
  rw [hT]
  refine (cnt_max (fun k h1 h2 => ?_) (fun k h1 h2 => absurd h1 (by omega))).symm
  rcases a8 k h2 with e | ⟨e, -⟩
  · unfold leB; rw [e]; decide
  · omega
theorem held_sum (hS : InvS σ) (h : TgC σ) : sum4 (holdsN σ) = cnt (leB σ) (Tg_ σ) := by
  obtain ⟨hT, h1, h8⟩ := hS.T1
  refine cnt_split (b := leB σ) (p := heldBy σ) (N := 8) (fun k hk => ⟨fun hb m hm => ?_, fun hb => ?_⟩) (Tg_ σ) h8
  · unfold leB at hb
    unfold heldBy
    rw [hb]; rfl
  · have hne : σ (13 + k) ≠ -5 := by unfold leB at hb; exact bne_iff_ne.mp hb
    obtain ⟨q, q1, q2, q3, q4⟩ := h k hk hne
    have hA := hS.A4.2
    obtain ⟨⟨m, hm, em⟩, -⟩ := hS.qok q1
    refine ⟨m, hm, ?_, fun j hj hjm => ?_⟩
    · unfold heldBy
      rw [q2, ix_nI (by omega), em, bne_iff_ne.mpr (nI_ne5 (by omega)), beq_self_eq_true]; rfl
    · unfold heldBy
      rw [q2, ix_nI (by omega), em, beq_eq_false_iff_ne.mpr (fun e => hjm (nI_inj (by omega) (by omega) e).symm), Bool.and_false]
theorem fr_le (n : Nat) : cnt (frB σ) n + cnt (leB σ) n = n := by
  induction n with
  | zero => rfl
  | succ n ih =>
    by_cases c : σ (13 + n) = -5
    · rw [cnt_t (show frB σ n = true by unfold frB; rw [c]; decide), cnt_f (show leB σ n = false by unfold leB; rw [c]; decide)]
      omega
    · rw [cnt_f (show frB σ n = false by unfold frB; exact beq_eq_false_iff_ne.mpr c), cnt_t (show leB σ n = true by unfold leB; exact bne_iff_ne.mpr c)]
      omega
theorem k_areTags (hC : CT K R t I S) (hJ : JJ S.σ) (hG : Q 1 I) : w_L_areTagsSo K R (some t) I Q := by
  have hT := hC.1
  have hS := hC.2.1.1
  obtain ⟨eT, hT1, hT8⟩ := hS.T1
  have hA := hS.A4.2
  obtain ⟨g1, g2, g3, c1, -⟩ := hJ
  have lt := lent_T hS
  have e_in : psum (inN S.σ) 4 = cnt (leB S.σ) (Tg_ S.σ) := by rw [psum4, ← c1, lt]
  have e_held : psum (holdsN S.σ) 4 = cnt (leB S.σ) (Tg_ S.σ) := by rw [psum4]; exact held_sum hS g2
  have efr := fr_le (σ := S.σ) (Tg_ S.σ)
  have fin : w_L_areTagsSo_b94 K R (some t) Q (nI (cnt (leB S.σ) (Tg_ S.σ))) 0 0 0 I := by
    unfold w_L_areTagsSo_b94
    intro X2 hX2
    have key2 : ∀ d p, p + d = 4 → X2 (nI (cnt (leB S.σ) (Tg_ S.σ))) (nI (psum (inN S.σ) p)) (nI (psum (holdsN S.σ) p)) (nI p) I := by
      intro d
      induction d with
      | zero =>
        intro p hp
        have hp4 : p = 4 := by omega
        subst hp4
        refine hX2 _ _ _ _ _ ?_
        unfold w_L_areTagsSo_b94_body w_L_areTagsSo_b198 w_L_areTagsSo_b199
        rw [e_in, e_held]
        refine ⟨fun _ => ⟨fun z => absurd rfl z, fun _ => ⟨fun z => absurd rfl z, fun _ => ⟨t, rfl, hT, k_n5 hC (k_n1 hC ?_)⟩⟩⟩, fun z => absurd (show (4 : Int32) ≤ nI 4 by decide) z⟩
        rw [eT]
        have e : nI (cnt (frB S.σ) (Tg_ S.σ)) + nI (cnt (leB S.σ) (Tg_ S.σ)) = nI (Tg_ S.σ) := by rw [nI_add, efr]
        refine ⟨fun z => absurd e z, fun _ => k_n1 hC ?_⟩
        rw [eT]
        exact k_tagT hC ⟨fun z => absurd rfl z, fun _ => ⟨bz1, hG⟩⟩
      | succ d ih =>
        intro p hp
        have hp4 : p < 4 := by omega
        obtain ⟨hn, en, -⟩ := hS.lists hp4
        refine hX2 _ _ _ _ _ ?_
        unfold w_L_areTagsSo_b94_body w_L_areTagsSo_b148
        refine ⟨fun z => absurd ((nI_leI (a := 4) (by omega) (by omega)).mp z) (by omega), fun _ => ⟨t, rfl, hT, k_t3 hC hp4 (k_m2 hC hp4 (k_t3 hC hp4 ?_))⟩⟩
        rw [en]
        refine ⟨fun z => absurd ((nI_ltI (a := 4) (by omega) (by omega)).mp z) (by omega), fun _ => k_t4 hC hp4 (k_t3 hC hp4 ?_)⟩
        rw [en]
        have hd := cnt_le (dnB S.σ p) (inN S.σ p)
        refine ⟨fun _ => ?_, fun z => absurd ((nI_leI (by omega) (by omega)).mpr hd) z⟩
        rw [nI_add, nI_add, nr_1]
        exact ih (p + 1) (by omega)
    exact key2 4 0 (by omega)
  unfold w_L_areTagsSo w_L_areTagsSo_b9
  intro X hX
  have key : ∀ d k, k + d = Tg_ S.σ → X (nI (cnt (leB S.σ) k)) 0 0 (nI k) I := by
    intro d
    induction d with
    | zero =>
      intro k hk
      have hk2 : k = Tg_ S.σ := by omega
      refine hX _ _ _ _ _ ?_
      unfold w_L_areTagsSo_b9_body
      refine ⟨t, rfl, hT, k_n1 hC ?_⟩
      rw [eT, hk2]
      exact ⟨fun _ => fin, fun z => absurd (Int32.le_refl _) z⟩
    | succ d ih =>
      intro k hk
      refine hX _ _ _ _ _ ?_
      have ih1 := ih (k + 1) (by omega)
      unfold w_L_areTagsSo_b9_body w_L_areTagsSo_b40 w_L_areTagsSo_b85 w_L_areTagsSo_b83
      refine ⟨t, rfl, hT, k_n1 hC ?_⟩
      rw [eT]
      refine ⟨fun z => absurd ((nI_leI (by omega) (by omega)).mp z) (by omega), fun _ => k_tag hC (by omega) ?_⟩
      by_cases c : S.σ (13 + k) = -5
      · rw [c]
        refine ⟨fun z => absurd rfl z, fun _ => ⟨fun _ => ?_, fun z => absurd rfl z⟩⟩
        rw [cnt_f (show leB S.σ k = false by unfold leB; rw [c]; decide)] at ih1
        rw [i32_add0, nr_1]
        exact ih1
      · obtain ⟨q, q1, q2, q3, q4⟩ := g2 k (by omega) c
        have h5 : nI q ≠ -5 := nI_ne5 (by omega)
        have hw : ¬ S.σ (161 + 11 * q + 4) < 1 ∧ S.σ (161 + 11 * q + 4) ≤ 2 := by
          rcases q4 with e | e <;> rw [e] <;> decide
        rw [q2]
        refine ⟨fun _ => ⟨fun z => absurd z h5, fun _ => ⟨t, rfl, hT, k_q5 hC q1 ?_⟩⟩, fun z => absurd z h5⟩
        rw [q3]
        refine ⟨fun z => absurd rfl z, fun _ => k_q4 hC q1 ⟨fun z => absurd z hw.1, fun _ => k_q4 hC q1 ⟨fun _ => ?_, fun z => absurd hw.2 z⟩⟩⟩
        rw [cnt_t (show leB S.σ k = true by unfold leB; exact bne_iff_ne.mpr c)] at ih1
        rw [nr_1, nr_1]
        exact ih1
  exact key (Tg_ S.σ) 0 (by omega)
end LT
