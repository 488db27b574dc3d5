section LR
variable {K : MK} {R : MR} {I J : MI} {t B : Nat} {S : St} {Q : Int32 → MI → Prop} {σ : Sr}
theorem ans_sum (hS : InvS σ) : sum4 (ansN σ) = cnt (isW σ 3) (ix (σ 4)) := by
  refine cnt_split (b := isW σ 3) (p := ansB3 σ) (N := ix (σ 4)) (fun q hq => ⟨fun hb m hm => ?_, fun hb => ?_⟩) (ix (σ 4)) (Nat.le_refl _)
  · unfold isW at hb
    unfold ansB3
    rw [hb, Bool.and_false]
  · unfold isW at hb
    obtain ⟨⟨m, hm, em⟩, -⟩ := hS.qok hq
    refine ⟨m, hm, ?_, fun j hj hjm => ?_⟩
    · unfold ansB3
      rw [hb, em, beq_self_eq_true]; rfl
    · unfold ansB3
      rw [em, beq_eq_false_iff_ne.mpr (fun e => hjm (nI_inj (by omega) (by omega) e).symm)]; rfl
theorem all_W (h : WOK σ) : ∀ n, n ≤ ix (σ 4) → cnt (isW σ 0) n + cnt (onB σ) n + cnt (isW σ 3) n + cnt (isW σ 4) n = n
  | 0, _ => rfl
  | n + 1, hn => by
    have ih := all_W h n (by omega)
    rcases h n (by omega) with e | e | e | e | e
    · rw [cnt_t (show isW σ 0 n = true by unfold isW; rw [e]; decide), cnt_f (show onB σ n = false by unfold onB; rw [e]; decide), cnt_f (show isW σ 3 n = false by unfold isW; rw [e]; decide), cnt_f (show isW σ 4 n = false by unfold isW; rw [e]; decide)]; omega
    · rw [cnt_f (show isW σ 0 n = false by unfold isW; rw [e]; decide), cnt_t (show onB σ n = true by unfold onB; rw [e]; decide), cnt_f (show isW σ 3 n = false by unfold isW; rw [e]; decide), cnt_f (show isW σ 4 n = false by unfold isW; rw [e]; decide)]; omega
    · rw [cnt_f (show isW σ 0 n = false by unfold isW; rw [e]; decide), cnt_t (show onB σ n = true by unfold onB; rw [e]; decide), cnt_f (show isW σ 3 n = false by unfold isW; rw [e]; decide), cnt_f (show isW σ 4 n = false by unfold isW; rw [e]; decide)]; omega
    · rw [cnt_f (show isW σ 0 n = false by unfold isW; rw [e]; decide), cnt_f (show onB σ n = false by unfold onB; rw [e]; decide), cnt_t (show isW σ 3 n = true by unfold isW; rw [e]; decide), cnt_f (show isW σ 4 n = false by unfold isW; rw [e]; decide)]; omega
    · rw [cnt_f (show isW σ 0 n = false by unfold isW; rw [e]; decide), cnt_f (show onB σ n = false by unfold onB; rw [e]; decide), cnt_f (show isW σ 3 n = false by unfold isW; rw [e]; decide), cnt_t (show isW σ 4 n = true by unfold isW; rw [e]; decide)]; omega
theorem k_n4A (hC : CT K R t I S) (h : Q (nI (ix (S.σ 4))) I) : w_X6_count K R t 4 I Q := by
  refine k_n4 hC ?_
  rw [← hC.2.1.1.A4.1] at h
  exact h
theorem k_rows43 {X9 : Int32 → Int32 → Int32 → Int32 → MI → Prop} {m : Nat} {y1 y2 y3 : Int32} (hC : CT K R t I S) (hJ : Ris S.σ) (hm : m < 4) (h9 : X9 y1 y2 y3 (nI (m + 1)) I) : w_L_areRowsSo_b43 K R (some t) Q X9 y1 y2 y3 (nI m) (nI (loN S.σ m)) 0 I := by
  have hT := hC.1
  have hS := hC.2.1.1
  have hA := hS.A4.2
  obtain ⟨hL6, eL, hjj⟩ := hS.rows hm
  unfold w_L_areRowsSo_b43
  intro X hX
  have key : ∀ d k, k + d = loN S.σ m → X y1 y2 y3 (nI m) (nI (loN S.σ m)) (nI k) I := by
    intro d
    induction d with
    | zero =>
      intro k hk
      have hk2 : k = loN S.σ m := by omega
      refine hX _ _ _ _ _ _ _ ?_
      unfold w_L_areRowsSo_b43_body w_L_areRowsSo_b130
      rw [hk2]
      refine ⟨fun _ => ⟨fun z => absurd ((nI_ltI (a := 6) (by omega) (by omega)).mp z) (by omega), fun _ => ⟨t, rfl, hT, k_rowN hC hm ⟨fun _ => ?_, fun z => absurd rfl z⟩⟩⟩, fun z => absurd (Int32.le_refl _) z⟩
      rw [nr_1]
      exact h9
    | succ d ih =>
      intro k hk
      obtain ⟨p1, p2, p3, p4, p5, -, -⟩ := hjj k (by omega)
      have ih1 := ih (k + 1) (by omega)
      refine hX _ _ _ _ _ _ _ ?_
      unfold w_L_areRowsSo_b43_body w_L_areRowsSo_b102 w_L_areRowsSo_b104
      refine ⟨fun z => absurd ((nI_leI (by omega) (by omega)).mp z) (by omega), fun _ => ⟨t, rfl, hT, k_row hC hm (by omega) (k_q4 hC p2 ?_)⟩⟩
      rw [p4]
      refine ⟨fun z => absurd rfl z, fun _ => k_q0 hC p2 ?_⟩
      rw [p5, nr_1]
      refine ⟨fun z => absurd rfl z, fun _ => ⟨fun _ => ih1, fun z => ?_⟩⟩
      have k1 : 1 ≤ k := by
        rcases Nat.eq_zero_or_pos k with c | c
        · rw [c] at z; exact absurd (show nI 0 ≤ 0 by decide) z
        · exact c
      rw [nI_sub1 k1]
      refine k_row hC hm (by omega) ?_
      have hr := hJ m hm (k - 1) (by omega)
      rw [show k - 1 + 1 = k by omega] at hr
      obtain ⟨r1, -⟩ := hjj (k - 1) (by omega)
      exact ⟨fun _ => ih1, fun z => absurd ((nI_ltI (by omega) (by omega)).mpr hr) z⟩
  exact key (loN S.σ m) 0 (by omega)
theorem k_areRows (hC : CT K R t I S) (hW : WOK S.σ) (hJ : JJ S.σ) (hTk : Tk S.σ) (hG : Q 1 I) : w_L_areRowsSo K R (some t) I Q := by
  have hT := hC.1
  have hS := hC.2.1.1
  obtain ⟨hA4, hA⟩ := hS.A4
  obtain ⟨g1, g2, g3, c1, c2, c3, c4, c5⟩ := hJ
  have aW := all_W hW (ix (S.σ 4)) (Nat.le_refl _)
  have e_lo : psum (loN S.σ) 4 = cnt (isW S.σ 0) (ix (S.σ 4)) := by rw [psum4]; exact c2
  have e_an : psum (ansN S.σ) 4 = cnt (isW S.σ 3) (ix (S.σ 4)) := by rw [psum4]; exact ans_sum hS
  have fin : w_L_areRowsSo_b147 K R (some t) Q (nI (psum (loN S.σ) 4)) 0 (nI (psum (ansN S.σ) 4)) 0 0 0 I := by
    rw [e_lo, e_an]
    unfold w_L_areRowsSo_b147
    intro X hX
    have key : ∀ d q, q + d = ix (S.σ 4) → X (nI (cnt (isW S.σ 0) (ix (S.σ 4)))) (nI (cnt (onB S.σ) q)) (nI (cnt (isW S.σ 3) (ix (S.σ 4)))) (suI (fun q => S.σ (161 + 11 * q + 9)) q) (nI (cnt (isW S.σ 4) q)) (nI q) I := by
      intro d
      induction d with
      | zero =>
        intro q hq
        have hqA : q = ix (S.σ 4) := by omega
        refine hX _ _ _ _ _ _ _ ?_
        unfold w_L_areRowsSo_b147_body w_L_areRowsSo_b263 w_L_areRowsSo_b264 w_L_areRowsSo_b326 w_L_areRowsSo_b327
        rw [hqA, ← c5, ← c3]
        refine ⟨t, rfl, hT, k_n4A hC ⟨fun _ => k_n6 hC ⟨fun z => absurd rfl z, fun _ => k_n8 hC ⟨fun z => absurd rfl z, fun _ => k_n7 hC (k_n6 hC ⟨fun z => absurd c4 z, fun _ => ⟨fun z => absurd z z10, fun _ => ⟨t, rfl, hT, k_n4 hC ?_⟩⟩⟩)⟩⟩, fun z => absurd (Int32.le_refl _) z⟩⟩
        have e : nI (cnt (isW S.σ 0) (ix (S.σ 4))) + nI (cnt (onB S.σ) (ix (S.σ 4))) + S.σ 8 + nI (cnt (isW S.σ 4) (ix (S.σ 4))) = S.σ 4 := by
          rw [c3, nI_add, nI_add, nI_add, aW]
          exact hA4.symm
        refine ⟨fun z => absurd e z, fun _ => k_n0 hC (k_n6 hC (k_n7 hC (k_n8 hC (k_n9 hC ⟨fun z => absurd hTk z, fun _ => ⟨bz1, hG⟩⟩))))⟩
      | succ d ih =>
        intro q hq
        have hqA : q < ix (S.σ 4) := by omega
        have ih1 := ih (q + 1) (by omega)
        have es : suI (fun q => S.σ (161 + 11 * q + 9)) (q + 1) = suI (fun q => S.σ (161 + 11 * q + 9)) q + S.σ (161 + 11 * q + 9) := rfl
        rw [es] at ih1
        refine hX _ _ _ _ _ _ _ ?_
        unfold w_L_areRowsSo_b147_body w_L_areRowsSo_b192 w_L_areRowsSo_b208 w_L_areRowsSo_b213
        refine ⟨t, rfl, hT, k_n4A hC ?_⟩
        refine ⟨fun z => absurd ((nI_leI (by omega) (by omega)).mp z) (by omega), fun _ => k_q4 hC hqA (k_q8 hC hqA ?_)⟩
        have done : ∀ a b, a = nI (cnt (onB S.σ) (q + 1)) → b = nI (cnt (isW S.σ 4) (q + 1)) → X (nI (cnt (isW S.σ 0) (ix (S.σ 4)))) a (nI (cnt (isW S.σ 3) (ix (S.σ 4)))) (suI (fun q => S.σ (161 + 11 * q + 9)) q + S.σ (161 + 11 * q + 9)) b (nI q + 1) I := fun a b ea eb => by
          rw [ea, eb, nr_1]; exact ih1
        rcases hW q hqA with e | e | e | e | e
        · have ea : nI (cnt (onB S.σ) q) + 0 = nI (cnt (onB S.σ) (q + 1)) := by rw [cnt_f (show onB S.σ q = false by unfold onB; rw [e]; decide), i32_add0]
          have eb : nI (cnt (isW S.σ 4) q) + 0 = nI (cnt (isW S.σ 4) (q + 1)) := by rw [cnt_f (show isW S.σ 4 q = false by unfold isW; rw [e]; decide), i32_add0]
          rw [e]
          exact ⟨fun _ => ⟨fun z => absurd z (by decide), fun _ => ⟨fun _ => done _ _ ea eb, fun z => absurd z (by decide)⟩⟩, fun z => absurd z (by decide)⟩
        · have ea : nI (cnt (onB S.σ) q) + 1 = nI (cnt (onB S.σ) (q + 1)) := by rw [cnt_t (show onB S.σ q = true by unfold onB; rw [e]; decide), nr_1]
          have eb : nI (cnt (isW S.σ 4) q) + 0 = nI (cnt (isW S.σ 4) (q + 1)) := by rw [cnt_f (show isW S.σ 4 q = false by unfold isW; rw [e]; decide), i32_add0]
          rw [e]
          exact ⟨fun _ => ⟨fun _ => done _ _ ea eb, fun z => absurd rfl z⟩, fun z => absurd z (by decide)⟩
        · have ea : nI (cnt (onB S.σ) q) + 1 = nI (cnt (onB S.σ) (q + 1)) := by rw [cnt_t (show onB S.σ q = true by unfold onB; rw [e]; decide), nr_1]
          have eb : nI (cnt (isW S.σ 4) q) + 0 = nI (cnt (isW S.σ 4) (q + 1)) := by rw [cnt_f (show isW S.σ 4 q = false by unfold isW; rw [e]; decide), i32_add0]
          rw [e]
          exact ⟨fun _ => ⟨fun z => absurd z (by decide), fun _ => ⟨fun z => absurd rfl z, fun _ => done _ _ ea eb⟩⟩, fun z => absurd z (by decide)⟩
        · have ea : nI (cnt (onB S.σ) q) + 0 = nI (cnt (onB S.σ) (q + 1)) := by rw [cnt_f (show onB S.σ q = false by unfold onB; rw [e]; decide), i32_add0]
          have eb : nI (cnt (isW S.σ 4) q) + 0 = nI (cnt (isW S.σ 4) (q + 1)) := by rw [cnt_f (show isW S.σ 4 q = false by unfold isW; rw [e]; decide), i32_add0]
          rw [e]
          exact ⟨fun _ => ⟨fun z => absurd z (by decide), fun _ => ⟨fun _ => done _ _ ea eb, fun z => absurd z (by decide)⟩⟩, fun z => absurd z (by decide)⟩
        · have ea : nI (cnt (onB S.σ) q) + 0 = nI (cnt (onB S.σ) (q + 1)) := by rw [cnt_f (show onB S.σ q = false by unfold onB; rw [e]; decide), i32_add0]
          have eb : nI (cnt (isW S.σ 4) q) + 1 = nI (cnt (isW S.σ 4) (q + 1)) := by rw [cnt_t (show isW S.σ 4 q = true by unfold isW; rw [e]; decide), nr_1]
          rw [e]
          exact ⟨fun z => absurd rfl z, fun _ => ⟨fun z => absurd z (by decide), fun _ => ⟨fun _ => done _ _ ea eb, fun z => absurd z (by decide)⟩⟩⟩
    exact key (ix (S.σ 4)) 0 (by omega)
  unfold w_L_areRowsSo w_L_areRowsSo_b9
  intro X hX
  have key : ∀ d m, m + d = 4 → X (nI (psum (loN S.σ) m)) 0 (nI (psum (ansN S.σ) m)) (nI m) I := by
    intro d
    induction d with
    | zero =>
      intro m hm
      have hm4 : m = 4 := by omega
      subst hm4
      refine hX _ _ _ _ _ ?_
      unfold w_L_areRowsSo_b9_body
      exact ⟨fun _ => fin, fun z => absurd (show (4 : Int32) ≤ nI 4 by decide) z⟩
    | succ d ih =>
      intro m hm
      have hm4 : m < 4 := by omega
      have ih1 := ih (m + 1) (by omega)
      have e1 : psum (loN S.σ) (m + 1) = psum (loN S.σ) m + loN S.σ m := rfl
      have e2 : psum (ansN S.σ) (m + 1) = psum (ansN S.σ) m + ansN S.σ m := rfl
      rw [e1, e2] at ih1
      refine hX _ _ _ _ _ ?_
      unfold w_L_areRowsSo_b9_body
      refine ⟨fun z => absurd ((nI_leI (a := 4) (by omega) (by omega)).mp z) (by omega), fun _ => ⟨t, rfl, hT, k_m0 hC hm4 (k_m6 hC hm4 ?_)⟩⟩
      rw [(hS.rows hm4).2.1, nI_add, nI_add]
      exact k_rows43 hC g3 hm4 ih1
  exact key 4 0 (by omega)
end LR
