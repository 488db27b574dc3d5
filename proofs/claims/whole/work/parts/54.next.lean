section NX
variable {K : MK} {R : MR} {I J : MI} {t r b : Nat} {S : St}
theorem CT.tr (h : CT K R t I S) {I' : MI} (hf : ∀ a, (a < t + 239 ∨ t + 477 ≤ a) → I' a = I a) : CT K R t I' S := by
  obtain ⟨h1, h2, h3, h4, h5, ⟨h6, h7⟩, h8, h9, h10, h11, h12, h13⟩ := h
  refine ⟨h1, h2.fr (fun a ha hb => hf a (by omega)), by rw [hf t (by omega)]; exact h3, h4, fun z => (h5 z).fr (fun a ha hb => hf a (by omega)), ⟨h6, by rw [hf t (by omega)]; exact h7⟩, by rw [hf _ (by omega)]; exact h8, by rw [hf _ (by omega)]; exact h9, fun j hj => ?_, h11, by rw [hf _ (by omega)]; exact h12, fun i hi => by rw [hf _ (by omega)]; exact h13 i hi⟩
  rw [hf _ (by omega)]
  exact (h10 j hj).fr (fun a ha hb => hf a (by unfold pastA at ha; omega))
theorem r_tickM {Q : Int32 → MI → Prop} {σ : Sr} (hM : IsModel K R r) (hσ : I (r + 1) = σ) (hS : InvS σ) (hQ : Q (tickK σ) (stS (upI I r 12 (tickQ σ)) r (tickS σ))) : w_X7_tick K R r I Q := by
  have h := ref_tick (K := K) (R := R) (I := I) (r := r) (σ := σ) (Q := Q) hM hS hQ
  rw [← hσ, stS_self] at h
  exact h
/-- put aside, ticked, put back -/
theorem r_restored {σ : Sr} {I' : MI} (hR : RT K R r I S) (hf : ∀ a, r + 2 < a → I' a = I a) (hr : ∀ k, k ≠ 12 → I' r k = I r k) : RT K R r (stA I' (r + 1) σ) (S.wσ σ) := by
  obtain ⟨h1, h2, h3, h4, h5, ⟨h6, h7⟩, h8, h9, h10, h11⟩ := hR
  have ho : ∀ a, r + 2 < a → stA I' (r + 1) σ a = I a := fun a a1 => by rw [stA_o (by omega), hf a a1]
  have hk : ∀ k, k ≠ 12 → stA I' (r + 1) σ r k = I r k := fun k hk => by rw [stA_o (by omega), hr k hk]
  exact ⟨h1, stA_s, by rw [hk _ (by omega)]; exact h3, h4, fun k hk' hz => by rw [ho _ (by omega)]; exact h5 k hk' hz, ⟨h6, by rw [hk _ (by omega)]; exact h7⟩, fun j hj k hk' => by rw [ho _ (by omega)]; exact h8 j hj k hk', h9, by rw [hk _ (by omega)]; exact h10, fun i hi => by rw [ho _ (by omega)]; exact h11 i hi⟩
theorem Rel2.back {σ : Sr} {I' : MI} (hd : t + 1681 ≤ r) (hC : CT K R t I S) (hR : RT K R r I S) (hW : WS S) (hσ : ∀ k, k < 2361 → σ k = S.σ k) (hf : ∀ a, (a < t + 239 ∨ t + 477 ≤ a) → a ≠ r → a ≠ r + 1 → a ≠ r + 2 → I' a = I a) (hr : ∀ k, k ≠ 12 → I' r k = I r k) : Rel2 K R t r (stA I' (r + 1) σ) := by
  have hA := hC.2.1.1.A4.2
  refine ⟨S.wσ σ, ?_, ?_, hW.w (hW.1.cg hA hσ)⟩
  · have hC1 : CT K R t (fun a => if t ≤ a ∧ a < t + 1681 then stA I' (r + 1) σ a else I a) S := hC.tr (fun a ha => by
      by_cases c : t ≤ a ∧ a < t + 1681
      · show (if t ≤ a ∧ a < t + 1681 then stA I' (r + 1) σ a else I a) = I a
        rw [if_pos c, stA_o (by omega), hf a ha (by omega) (by omega) (by omega)]
      · show (if t ≤ a ∧ a < t + 1681 then stA I' (r + 1) σ a else I a) = I a
        rw [if_neg c])
    have hC2 : CT K R t (stA I' (r + 1) σ) S := hC1.fr (fun a h1 h2 => by
      show _ = (if t ≤ a ∧ a < t + 1681 then stA I' (r + 1) σ a else I a)
      rw [if_pos ⟨h1, h2⟩])
    obtain ⟨q1, q2, q3⟩ := hC2
    exact ⟨q1, q2.cg (fun _ _ _ => rfl) hσ, q3⟩
  · exact r_restored hR (fun a h1 => hf a (by omega) (by omega) (by omega) (by omega)) hr
theorem p_next {G : Int32 → Int32 → MI → Prop} {x : Int32} (hd : t + 1681 ≤ r) (hC : CT K R t I S) (hR : RT K R r I S) (hW : WS S) (hG : ∀ v I', Rel2 K R t r I' → G v v I') : w_X6_next K R t x I (fun v I1 => w_X7_next K R r x I1 (fun v' I2 => G v v' I2)) := by
  have hT := hC.1
  have hS := hC.2.1.1
  have hRL : Rel2 K R t r I := ⟨S, hC, hR, hW⟩
  obtain ⟨b5, bA⟩ := bus5 hC.2.1
  have hQK := tickQ_K hS
  have main : (x = 0 ∨ x = 1) → w_X6_next_b12 K R t x (fun v I1 => w_X7_next K R r x I1 (fun v' I2 => G v v' I2)) I := by
    intro hx
    have refn : ∀ (V : Int32) (I3 : MI), (∀ a, (a < t + 239 ∨ t + 477 ≤ a) → I3 a = I a) → V = (if x = 0 then tickQ S.σ else tickK S.σ) → w_X7_next K R r x I3 (fun v' I2 => G V v' I2) := by
      intro V I3 hf eV
      have e1 : I3 (r + 1) = S.σ := by rw [hf _ (by omega)]; exact hR.2.1
      unfold w_X7_next w_X7_next_b37
      refine r_in1 (by rcases hx with rfl | rfl <;> decide) ⟨fun _ => ⟨hR.1, r_aside hR.1 ?_⟩, fun z => absurd z z10⟩
      refine r_tickM (σ := S.σ) hR.1 (by rw [stA_o (by omega)]; exact e1) hS ?_
      refine r_back hR.1 ?_
      have hr2 : Rel2 K R t r (stA (stS (upI (stA I3 (r + 2) (mixS 2361 (I3 (r + 1)) (I3 (r + 2)))) r 12 (tickQ S.σ)) r (tickS S.σ)) (r + 1) (mixS 2361 (stS (upI (stA I3 (r + 2) (mixS 2361 (I3 (r + 1)) (I3 (r + 2)))) r 12 (tickQ S.σ)) r (tickS S.σ) (r + 2)) (stS (upI (stA I3 (r + 2) (mixS 2361 (I3 (r + 1)) (I3 (r + 2)))) r 12 (tickQ S.σ)) r (tickS S.σ) (r + 1)))) := by
        refine Rel2.back hd hC hR hW (fun k hk => ?_) (fun a ha a1 a2 a3 => ?_) (fun k hk => ?_)
        · rw [mixS_eq hk, stS_o (by omega), upI_f (by omega), stA_at, mixS_eq hk, e1]
        · funext j
          rw [stS_o a2, upI_f a1, stA_o a3, hf a ha]
        · rw [stS_o (by omega), upI_k hk, stA_o (by omega), hf r (by omega)]
      have e12 : stA (stS (upI (stA I3 (r + 2) (mixS 2361 (I3 (r + 1)) (I3 (r + 2)))) r 12 (tickQ S.σ)) r (tickS S.σ)) (r + 1) (mixS 2361 (stS (upI (stA I3 (r + 2) (mixS 2361 (I3 (r + 1)) (I3 (r + 2)))) r 12 (tickQ S.σ)) r (tickS S.σ) (r + 2)) (stS (upI (stA I3 (r + 2) (mixS 2361 (I3 (r + 1)) (I3 (r + 2)))) r 12 (tickQ S.σ)) r (tickS S.σ) (r + 1))) r 12 = tickQ S.σ := by
        rw [stA_o (by omega), stS_o (by omega), upI_s]
      refine ⟨fun z => ?_, fun z => ?_⟩
      · rw [if_neg z] at eV
        rw [eV]
        exact hG _ _ hr2
      · rw [if_pos z] at eV
        rw [e12, eV]
        exact hG _ _ hr2
    unfold w_X6_next_b12 w_X6_next_b55
    refine ⟨hT, c_copy hT.o1 hT.o0 (by omega) b5 bA (fun I2 f1 f2 => ?_)⟩
    have hrel : RelB (rowB I2 (t + 239)) S.σ := hC.2.1.cg (fun k h1 h2 => f2 k h1 h2) (fun _ _ => rfl)
    have h := c_tick (K := K) (R := R) (J := I2) (b := t + 239) (ρ := rowB I2 (t + 239)) (σ := S.σ) (Q := fun v4 I3 => ((¬ v4 = (-5:Int32) → ((¬ x = 0 → w_X7_next K R r x I3 (fun v' I2 => G (I3 (t + 239) 7) v' I2)) ∧ (x = 0 → w_X7_next K R r x I3 (fun v' I2 => G v4 v' I2)))) ∧ (v4 = (-5:Int32) → w_X7_next K R r x I3 (fun v' I2 => G (-5) v' I2)))) hT.o1 hrel (fun ρ' hr hk => by
      have hf : ∀ a, (a < t + 239 ∨ t + 477 ≤ a) → stB I2 (t + 239) ρ' a = I a := fun a ha => by
        funext j
        rw [stB_o (by omega), f1 a (by omega)]
      refine ⟨fun z => ⟨fun z0 => refn _ _ hf ?_, fun z0 => refn _ _ hf ?_⟩, fun z => refn _ _ hf ?_⟩
      · rw [if_neg z0, r_b_lt]
        exact hk (fun q => z (hQK.mpr q))
      · rw [if_pos z0]
      · by_cases z0 : x = 0
        · rw [if_pos z0]; exact z.symm
        · rw [if_neg z0]; exact (hQK.mp z).symm)
    rw [stB_self] at h
    exact h
  unfold w_X6_next
  refine ⟨fun z => main (Or.inl z), fun z => ⟨fun z1 => main (Or.inr z1), fun z1 => ?_⟩⟩
  unfold w_X7_next
  refine r_in0 (fun c => ?_) ⟨fun z => absurd rfl z, fun _ => hG _ _ hRL⟩
  obtain ⟨j, hj, e⟩ := (in_idx (n := 1) (by decide)).mp c
  have : j = 0 ∨ j = 1 := by omega
  rcases this with rfl | rfl
  · exact z e
  · exact z1 e
theorem tkN_4 {σ : Sr} (hS : InvS σ) : ∀ n, tkN σ n 4 = σ 4
  | 0 => rfl
  | n + 1 => (tick_4' (tkN_inv hS n)).trans (tkN_4 hS n)
theorem p_answeredIn {G : Int32 → Int32 → MI → Prop} {x : Int32} (hd : t + 1681 ≤ r) (hC : CT K R t I S) (hR : RT K R r I S) (hW : WS S) (hG : ∀ v I', Rel2 K R t r I' → G v v I') : w_X6_answeredIn K R t x I (fun v I1 => w_X7_answeredIn K R r x I1 (fun v' I2 => G v v' I2)) := by
  have hT := hC.1
  have hB := hT.o0
  have hS := hC.2.1.1
  have hM := hR.1
  have hRL : Rel2 K R t r I := ⟨S, hC, hR, hW⟩
  obtain ⟨b5, bA⟩ := bus5 hC.2.1
  unfold w_X6_answeredIn
  refine ⟨hT, ?_⟩
  rcases Gt_or (n := ix (S.σ 4)) x with ⟨q, hq, rfl⟩ | hx
  · refine c_questionAt hB b5 bA hq ⟨fun z => (by cases z), fun r4 e4 => ?_⟩
    cases e4
    have hQ := hB.p4 (i := q) (by omega)
    have ew : I (t + 1 + 38 + q) 4 = S.σ (161 + 11 * q + 4) := hC.rd (so_w q (by omega) 4 (by omega)) (by omega) (by omega) (by omega) (by omega)
    have hwok := hW.1 q hq
    rw [ew]
    have four : ∀ V, (S.σ (161 + 11 * q + 4) = 3 ∨ S.σ (161 + 11 * q + 4) = 4) → V = -4 → w_X7_answeredIn K R r (nI q) I (fun v' I2 => G V v' I2) := by
      intro V h eV
      subst eV
      unfold w_X7_answeredIn
      refine ⟨hM, r_isQ1 hR hS hq ⟨fun _ => ?_, fun z => absurd z z10⟩⟩
      rw [of_l4, ix_nI (by omega), hR.2.1]
      refine ⟨vp_in_nI (by omega) (by decide), fun z => ?_, fun _ => hG _ _ hRL⟩
      rcases h with e | e <;> rw [e] at z <;> exact absurd z (by decide)
    unfold w_X6_answeredIn_b31
    refine ⟨hQ, fun e => four _ (Or.inl e) rfl, fun e => ⟨fun e2 => ?_, fun e2 => four _ (Or.inr e2) rfl⟩⟩
    have hle2 : S.σ (161 + 11 * q + 4) ≤ 2 := by
      rcases hwok with z | z | z | z | z
      · rw [z]; decide
      · rw [z]; decide
      · rw [z]; decide
      · exact absurd z e
      · exact absurd z e2
    -- what the reference makes of it
    have refa : ∀ (V : Int32) (I3 : MI) (n : Nat), (∀ a, (a < t + 239 ∨ t + 477 ≤ a) → I3 a = I a) → n ≤ 999 → (∀ k, k < n → tkN S.σ k (161 + 11 * q + 4) ≠ 3) → (tkN S.σ n (161 + 11 * q + 4) = 3 ∧ V = nI n ∨ tkN S.σ n (161 + 11 * q + 4) ≠ 3 ∧ n = 999 ∧ V = -5) → w_X7_answeredIn K R r (nI q) I3 (fun v' I2 => G V v' I2) := by
      intro V I3 n hf hn hno hV
      have hR3 : RT K R r I3 S := hR.fr (fun a ha => hf a (by omega))
      have e1 : I3 (r + 1) = S.σ := hR3.2.1
      unfold w_X7_answeredIn
      refine ⟨hM, r_isQ1 hR3 hS hq ⟨fun _ => ?_, fun z => absurd z z10⟩⟩
      rw [of_l4, ix_nI (by omega), e1]
      refine ⟨vp_in_nI (by omega) (by decide), fun _ => r_aside hM ?_, fun z => absurd hle2 z⟩
      rw [e1]
      have b65 : ∀ I', (∀ a, (a < t + 239 ∨ t + 477 ≤ a) → a ≠ r → a ≠ r + 1 → a ≠ r + 2 → I' a = I a) → (∀ k, k ≠ 12 → I' r k = I r k) → I' (r + 1) = tkN S.σ n → (∀ k, k < 2361 → I' (r + 2) k = S.σ k) → w_X7_answeredIn_b65 K R r (nI q) (fun v' I2 => G V v' I2) (nI n) I' := by
        intro I' f1 f2 f3 f4
        have hr2 : Rel2 K R t r (stA I' (r + 1) (mixS 2361 (I' (r + 2)) (I' (r + 1)))) := Rel2.back hd hC hR hW (fun k hk => by rw [mixS_eq hk]; exact f4 k hk) f1 f2
        unfold w_X7_answeredIn_b65 w_X7_answeredIn_b84 w_X7_answeredIn_b99
        refine ⟨hM, ?_⟩
        rw [of_l4, ix_nI (by omega), f3]
        refine ⟨vp_in_nI (by omega) (by decide), fun c => ⟨hM, r_back hM ⟨fun _ => ?_, fun z => absurd rfl z⟩⟩, fun c => ⟨hM, r_back hM ⟨fun z => absurd z z10, fun _ => ?_⟩⟩⟩
        · rcases hV with ⟨a, -⟩ | ⟨-, -, eV⟩
          · exact absurd a c
          · rw [eV]; exact hG _ _ hr2
        · rcases hV with ⟨-, eV⟩ | ⟨a, -⟩
          · rw [eV]; exact hG _ _ hr2
          · exact absurd c a
      unfold w_X7_answeredIn_b33
      intro X hX
      have key : ∀ d k, k + d = n → ∀ I', (∀ a, (a < t + 239 ∨ t + 477 ≤ a) → a ≠ r → a ≠ r + 1 → a ≠ r + 2 → I' a = I a) → (∀ k, k ≠ 12 → I' r k = I r k) → I' (r + 1) = tkN S.σ k → (∀ k, k < 2361 → I' (r + 2) k = S.σ k) → X (nI k) I' := by
        intro d
        induction d with
        | zero =>
          intro k hk I' f1 f2 f3 f4
          have : k = n := by omega
          subst this
          refine hX _ _ ?_
          unfold w_X7_answeredIn_b33_body
          refine ⟨fun _ => b65 I' f1 f2 f3 f4, fun z => ⟨hM, ?_⟩⟩
          rw [of_l4, ix_nI (by omega), f3]
          refine ⟨vp_in_nI (by omega) (by decide), fun _ => b65 I' f1 f2 f3 f4, fun c => ?_⟩
          rcases hV with ⟨a, -⟩ | ⟨-, e, -⟩
          · exact absurd a c
          · rw [e] at z; exact absurd (show (999 : Int32) ≤ nI 999 by decide) z
        | succ d ih =>
          intro k hk I' f1 f2 f3 f4
          refine hX _ _ ?_
          have hle : ¬ 999 ≤ k := by omega
          unfold w_X7_answeredIn_b33_body
          simp (disch := omega) only [ll_999, hle, false_implies, true_and, not_false_iff, true_implies]
          refine ⟨hM, ?_⟩
          rw [of_l4, ix_nI (by omega), f3]
          refine ⟨vp_in_nI (by omega) (by decide), fun c => absurd c (hno k (by omega)), fun _ => r_tickM (σ := tkN S.σ k) hM f3 (tkN_inv hS k) ?_⟩
          rw [nr_1]
          refine ih (k + 1) (by omega) _ (fun a a0 a1 a2 a3 => ?_) (fun k' hk' => ?_) ?_ (fun k' hk' => ?_)
          · funext j; rw [stS_o a2, upI_f a1, f1 a a0 a1 a2 a3]
          · rw [stS_o (by omega), upI_k hk', f2 k' hk']
          · funext j; rw [stS_s]; rfl
          · rw [stS_o (by omega), upI_f (by omega)]; exact f4 k' hk'
      refine key n 0 (by omega) _ (fun a a0 a1 a2 a3 => by rw [stA_o a3, hf a a0]) (fun k hk => by rw [stA_o (by omega), hf r (by omega)]) (by rw [stA_o (by omega)]; exact e1) (fun k hk => by rw [stA_at, mixS_eq hk])
    refine c_copy hT.o1 hT.o0 (by omega) b5 bA (fun I2 f1 f2 => ?_)
    have hrel : RelB (rowB I2 (t + 239)) S.σ := hC.2.1.cg (fun k h1 h2 => f2 k h1 h2) (fun _ _ => rfl)
    unfold w_X6_answeredIn_b47
    intro X hX
    have key : ∀ d k, k + d = 999 → ∀ ρ, RelB ρ (tkN S.σ k) → (∀ j, j ≤ k → tkN S.σ j (161 + 11 * q + 4) ≠ 3) → X (nI (k + 1)) (stB I2 (t + 239) ρ) := by
      intro d
      induction d with
      | zero =>
        intro k hk ρ hρ hno
        have : k = 999 := by omega
        subst this
        refine hX _ _ ?_
        unfold w_X6_answeredIn_b47_body
        refine ⟨fun _ => refa _ _ 999 (fun a ha => by funext j; rw [stB_o (by omega), f1 a (by omega)]) (by omega) (fun j hj => hno j (by omega)) (Or.inr ⟨hno 999 (by omega), rfl, rfl⟩), fun z => absurd (show (999 : Int32) < nI (999 + 1) by decide) z⟩
      | succ d ih =>
        intro k hk ρ hρ hno
        refine hX _ _ ?_
        have hlt : ¬ (999 : Int32) < nI (k + 1) := fun z => by have := (nI_ltI (a := 999) (b := k + 1) (by omega) (by omega)).mp z; omega
        unfold w_X6_answeredIn_b47_body w_X6_answeredIn_b78
        refine ⟨fun z => absurd z hlt, fun _ => ⟨hT, c_tick hT.o1 hρ (fun ρ' hr hk' => ?_)⟩⟩
        have hA4 : tkN S.σ k 4 = S.σ 4 := tkN_4 hS k
        have hans := tick_ans (tkN_inv hS k) (q := q) (by rw [hA4]; exact hq) (hno k (by omega))
        have next : ¬ (tickQ (tkN S.σ k) = nI q ∧ tickK (tkN S.σ k) = 1) → X (nI (k + 1 + 1)) (stB I2 (t + 239) ρ') := fun z => ih (k + 1) (by omega) ρ' hr (fun j hj => by
          by_cases e : j = k + 1
          · subst e; exact fun c => z (hans.mp c)
          · exact hno j (by omega))
        rw [r_b_lt, nr_1]
        refine ⟨fun c => next (fun z => c z.1), fun c => ⟨fun c2 => next (fun z => c2 ?_), fun c2 => ?_⟩⟩
        · rw [hk' (by rw [z.2]; decide)]; exact z.2
        · have hK5 : tickK (tkN S.σ k) ≠ -5 := fun z => by
            have := (tickQ_K (tkN_inv hS k)).mpr z
            rw [c] at this
            exact nI_ne5 (by omega) this
          rw [hk' hK5] at c2
          refine refa _ _ (k + 1) (fun a ha => by funext j; rw [stB_o (by omega), f1 a (by omega)]) (by omega) (fun j hj => hno j (by omega)) (Or.inl ⟨hans.mpr ⟨c, c2⟩, rfl⟩)
    have := key 999 0 (by omega) (rowB I2 (t + 239)) hrel (fun j hj => by
      have : j = 0 := by omega
      subst this
      exact e)
    rw [stB_self] at this
    exact this
  · refine c_questionN hB b5 (by omega) hx ⟨fun _ => ?_, fun r4 z => by cases z⟩
    unfold w_X7_answeredIn
    exact ⟨hM, r_isQ0 hR hS hx ⟨fun z => absurd rfl z, fun _ => hG _ _ hRL⟩⟩
end NX
