theorem nar_i2cv (x : Int32) : vp_nar .char (i2cv x) = i2cv x := by
  rw [vp_nar_char]
  unfold i2cv
  have h : (x.toUInt32 % 65536).toInt32.toUInt32.toUInt16.toUInt32 = x.toUInt32 % 65536 := by
    apply UInt32.toNat_inj.mp
    simp
  rw [h]
section SE
variable {K : MK} {R : MR} {I J : MI} {t r b : Nat} {S : St}
theorem c_tickT {Q : Int32 → MI → Prop} (hC : CT K R t I S) (hQ : ∀ I', CT K R t I' (S.wσ (tickS S.σ)) → FrC t I I' → Q (tickQ S.σ) I') : w_X0_passTick K R (t + 1) I Q := by
  have h := c_tick (K := K) (R := R) (J := I) (b := t + 1) (ρ := rowB I (t + 1)) (σ := S.σ) (Q := Q) hC.1.o0 hC.2.1 (fun ρ' hr _ => hQ _ (hC.w hr) FrC_stB)
  rw [stB_self] at h
  exact h
theorem RT.o (h : RT K R r I S) {k : Nat} {x : Int32} (hk : k = 8 ∨ k = 9 ∨ k = 12) : RT K R r (upI I r k x) S := by
  obtain ⟨h1, h2, h3, h4, h5, ⟨h6, h7⟩, h8, h9, h10, h11⟩ := h
  exact ⟨h1, by rw [upI_f (by omega)]; exact h2, by rw [upI_k (by omega)]; exact h3, h4, fun k hk hz => by rw [upI_f (by omega)]; exact h5 k hk hz, ⟨h6, by rw [upI_k (by omega)]; exact h7⟩, fun j hj k hk => by rw [upI_f (by omega)]; exact h8 j hj k hk, h9, by rw [upI_k (by omega)]; exact h10, fun i hi => by rw [upI_f (by omega)]; exact h11 i hi⟩
theorem r_tickT {Q : Int32 → MI → Prop} (hR : RT K R r I S) (hS : InvS S.σ) (hQ : ∀ I', RT K R r I' (S.wσ (tickS S.σ)) → FrR r I I' → I' r 12 = tickQ S.σ → Q (tickK S.σ) I') : w_X7_tick K R r I Q := by
  have h := ref_tick (K := K) (R := R) (I := I) (r := r) (σ := S.σ) (Q := Q) hR.1 hS (hQ _ (hR.o (Or.inr (Or.inr rfl))).w ?_ ?_)
  · rw [← hR.2.1, stS_self] at h
    exact h
  · intro a ha
    funext j
    rw [stS_o (by omega), upI_f (by omega)]
  · rw [stS_o (by omega), upI_s]
theorem tickQ_K {σ : Sr} (hS : InvS σ) : tickQ σ = -5 ↔ tickK σ = -5 := tripQ_K (doAllL_inv hS 4 (by omega)).1
def tkN (σ : Sr) : Nat → Sr
  | 0 => σ
  | n + 1 => tickS (tkN σ n)
def mvN (σ : Sr) : Nat → Nat
  | 0 => 0
  | n + 1 => if tickQ (tkN σ n) = -5 then mvN σ n else mvN σ n + 1
theorem tkN_inv {σ : Sr} (hS : InvS σ) : ∀ n, InvS (tkN σ n)
  | 0 => hS
  | n + 1 => tickS_inv (tkN_inv hS n)
theorem tkN_wok {σ : Sr} (hS : InvS σ) (h : WOK σ) : ∀ n, WOK (tkN σ n)
  | 0 => h
  | n + 1 => tick_wok (tkN_inv hS n) (tkN_wok hS h n)
theorem wσσ (S : St) (a c : Sr) : (S.wσ a).wσ c = S.wσ c := rfl
theorem CT.wid (h : CT K R t I S) : CT K R t I (S.wσ S.σ) := h
theorem RT.wid (h : RT K R r I S) : RT K R r I (S.wσ S.σ) := h
theorem p_pass {G : Int32 → Int32 → MI → Prop} {x : Int32} (hd : t + 1681 ≤ r) (hC : CT K R t I S) (hR : RT K R r I S) (hW : WS S) (hG : ∀ v I', Rel2 K R t r I' → G v v I') : w_X6_pass K R t x I (fun v I1 => w_X7_pass K R r x I1 (fun v' I2 => G v v' I2)) := by
  have hT := hC.1
  have hRL : Rel2 K R t r I := ⟨S, hC, hR, hW⟩
  have hS := hC.2.1.1
  have e6 : I (t + 1) 6 = S.σ 0 := hC.rd so_tk (by omega) (by omega) (by omega) (by omega)
  unfold w_X6_pass
  refine c_in (fun c => ⟨fun _ => ⟨hT, fun c2 => ?_, fun c2 => ?_⟩, fun z => absurd z z10⟩) (fun c => ⟨fun z => absurd rfl z, fun _ => ?_⟩)
  · obtain ⟨n, hn, rfl⟩ := le_nI (n := 99) (Int32.le_trans (show (0 : Int32) ≤ 1 by decide) c.1) c.2 (by decide)
    have refp : ∀ I1, RT K R r I1 S → (∀ I2, RT K R r I2 (S.rec'.wσ (tkN S.σ n)) → FrR r I1 I2 → G (nI (mvN S.σ n)) (nI (mvN S.σ n)) I2) → w_X7_pass K R r (nI n) I1 (fun v' I2 => G (nI (mvN S.σ n)) v' I2) := by
      intro I1 hR1 hg
      unfold w_X7_pass
      refine r_in1 c ⟨fun _ => ⟨hR1.1, ?_⟩, fun z => absurd z z10⟩
      rw [hR1.2.1, ← e6]
      refine ⟨fun _ => r_know hR1 (fun I3 hR3 f3 => ?_), fun z => absurd c2 z⟩
      unfold w_X7_pass_b38
      intro X hX
      have key : ∀ d k, k + d = n → ∀ I', RT K R r I' (S.rec'.wσ (tkN S.σ k)) → FrR r I1 I' → X (nI (mvN S.σ k)) (nI k) I' := by
        intro d
        induction d with
        | zero =>
          intro k hk I' hR' f'
          refine hX _ _ _ ?_
          have : k = n := by omega
          subst this
          unfold w_X7_pass_b38_body
          exact ⟨fun _ => hg I' hR' f', fun z => absurd (Int32.le_refl _) z⟩
        | succ d ih =>
          intro k hk I' hR' f'
          refine hX _ _ _ ?_
          have hle : ¬ nI n ≤ nI k := fun z => by have := (nI_leI (by omega) (by omega)).mp z; omega
          have ih1 := ih (k + 1) (by omega)
          unfold mvN at ih1
          have hq := tickQ_K (tkN_inv hS k)
          unfold w_X7_pass_b38_body w_X7_pass_b58
          refine ⟨fun z => absurd z hle, fun _ => ⟨hR'.1, r_tickT hR' (tkN_inv hS k) (fun I5 h5 f5 _ => ⟨fun z => ?_, fun z => ?_⟩)⟩⟩
          · have z' : ¬ tickQ (tkN S.σ k) = -5 := fun q => z (hq.mp q)
            rw [if_neg z'] at ih1
            rw [nr_1, nr_1]
            exact ih1 I5 h5 (f'.trans f5)
          · have z' : tickQ (tkN S.σ k) = -5 := hq.mpr z
            rw [if_pos z'] at ih1
            rw [i32_add0, nr_1]
            exact ih1 I5 h5 (f'.trans f5)
      exact key n 0 (by omega) I3 (by have := hR3.wid; rw [rec_σ] at this; exact this) f3
    refine c_record hC (fun I3 hC3 f3 => ?_)
    unfold w_X6_pass_b39
    intro X hX
    have key : ∀ d k, k + d = n → ∀ I', CT K R t I' (S.rec'.wσ (tkN S.σ k)) → FrC t I I' → X (nI (mvN S.σ k)) (nI k) I' := by
      intro d
      induction d with
      | zero =>
        intro k hk I' hC' f'
        refine hX _ _ _ ?_
        have : k = n := by omega
        subst this
        unfold w_X6_pass_b39_body
        exact ⟨fun _ => refp I' (hR.ofC hd f') (fun I2 h2 f2 => hG _ I2 ⟨_, hC'.ofR hd f2, h2, hW.r.w (tkN_wok hS hW.1 _)⟩), fun z => absurd (Int32.le_refl _) z⟩
      | succ d ih =>
        intro k hk I' hC' f'
        refine hX _ _ _ ?_
        have hle : ¬ nI n ≤ nI k := fun z => by have := (nI_leI (by omega) (by omega)).mp z; omega
        have ih1 := ih (k + 1) (by omega)
        unfold mvN at ih1
        unfold w_X6_pass_b39_body w_X6_pass_b59
        refine ⟨fun z => absurd z hle, fun _ => ⟨hT, c_tickT hC' (fun I5 h5 f5 => ⟨fun z => ?_, fun z => ?_⟩)⟩⟩
        · rw [if_pos (show tickQ (tkN S.σ k) = -5 from z)] at ih1
          rw [nr_1]
          exact ih1 I5 h5 (f'.trans f5)
        · rw [if_neg (show ¬ tickQ (tkN S.σ k) = -5 from z)] at ih1
          rw [nr_1, nr_1]
          exact ih1 I5 h5 (f'.trans f5)
    exact key n 0 (by omega) I3 (by have := hC3.wid; rw [rec_σ] at this; exact this) f3
  · unfold w_X7_pass
    refine r_in1 c ⟨fun _ => ⟨hR.1, ?_⟩, fun z => absurd z z10⟩
    rw [hR.2.1, ← e6]
    exact ⟨fun z => absurd z c2, fun _ => hG _ _ hRL⟩
  · unfold w_X7_pass
    exact r_in0 c ⟨fun z => absurd rfl z, fun _ => hG _ _ hRL⟩
def St.text (S : St) (len : Nat) (tx : Nat → Int32) : St := (S.σ, S.kp, S.κ, S.c, S.hs, len, tx)
theorem CT.txt (h : CT K R t I S) {I' : MI} {len : Nat} {tx : Nat → Int32} (hf : ∀ a, t ≤ a → a < t + 1681 → a ≠ t + 716 → a ≠ t + 717 → I' a = I a) (hl : len ≤ 60) (h1 : I' (t + 716) 1 = nI len) (h2 : ∀ i, i < len → I' (t + 717) i = tx i) : CT K R t I' (S.text len tx) := by
  obtain ⟨g1, g2, h3, h4, h5, ⟨h6, h7⟩, h8, h9, h10, h11, h12, h13⟩ := h
  have e715 : I' (t + 715) = I (t + 715) := hf _ (by omega) (by omega) (by omega) (by omega)
  refine ⟨g1, g2.fr (fun a ha hb => hf a (by omega) (by omega) (by omega) (by omega)), by rw [hf t (by omega) (by omega) (by omega) (by omega)]; exact h3, h4, fun z => (h5 z).fr (fun a ha hb => hf a (by omega) (by omega) (by omega) (by omega)), ⟨h6, by rw [hf t (by omega) (by omega) (by omega) (by omega)]; exact h7⟩, by rw [e715]; exact h8, by rw [e715]; exact h9, fun j hj => ?_, hl, h1, h2⟩
  rw [e715]
  have hg := h8 j (by have : j < S.c := hj; omega)
  have hPj : pastA t (I (t + 715) j) = t + 729 + 238 * ix (I (t + 715) j) := rfl
  exact (h10 j hj).fr (fun a ha hb => hf a (by omega) (by omega) (by omega) (by omega))
theorem RT.txt (h : RT K R r I S) {I' : MI} {len : Nat} {tx : Nat → Int32} (hf : ∀ a, r ≤ a → a ≠ r → a ≠ r + 5 → I' a = I a) (h5' : I' r 5 = I r 5) (h3' : I' r 3 = I r 3) (hl : len ≤ 60) (h1 : I' r 7 = nI len) (h2 : ∀ i, i < len → I' (r + 5) i = tx i) : RT K R r I' (S.text len tx) := by
  obtain ⟨g1, g2, h3, h4, h5, ⟨h6, h7⟩, h8, h9, h10, h11⟩ := h
  exact ⟨g1, by rw [hf _ (by omega) (by omega) (by omega)]; exact g2, by rw [h5']; exact h3, h4, fun k hk hz => by rw [hf _ (by omega) (by omega) (by omega)]; exact h5 k hk hz, ⟨h6, by rw [h3']; exact h7⟩, fun j hj k hk => by rw [hf _ (by omega) (by omega) (by omega)]; exact h8 j hj k hk, hl, h1, h2⟩
theorem p_type {G : Int32 → Int32 → MI → Prop} {y : Int32} (hd : t + 1681 ≤ r) (hC : CT K R t I S) (hR : RT K R r I S) (hW : WS S) (hG : ∀ v I', Rel2 K R t r I' → G v v I') : w_X6_type K R t (i2cv y) I (fun v I1 => w_X7_type K R r (i2cv y) I1 (fun v' I2 => G v v' I2)) := by
  have hT := hC.1
  have hRL : Rel2 K R t r I := ⟨S, hC, hR, hW⟩
  obtain ⟨g1, g2, h3, h4, h5, ⟨h6, h7⟩, h8, h9, h10, h11, h12, h13⟩ := hC
  have hC : CT K R t I S := ⟨g1, g2, h3, h4, h5, ⟨h6, h7⟩, h8, h9, h10, h11, h12, h13⟩
  have hR' := hR
  obtain ⟨r1, r2, r3, r4, r5, ⟨r6, r7⟩, r8, r9, r10, r11⟩ := hR
  have rt : ∀ (v : Int32) (I1 : MI), I1 r 7 = nI S.len → IsModel K R r → (S.len = 60 → G v (-3) I1) → (S.len < 60 → G v (nI (S.len + 1)) (upI (upI I1 (r + 5) S.len (i2cv y)) r 7 (nI (S.len + 1)))) → w_X7_type K R r (i2cv y) I1 (fun v' I2 => G v v' I2) := by
    intro v I1 e hM a c
    unfold w_X7_type
    have e60 : (nI S.len = (60 : Int32)) = (S.len = 60) := el_60 (by omega)
    rw [e, e60]
    refine ⟨hM, fun z => ⟨vp_in_nI (by omega) (by decide), ?_⟩, a⟩
    rw [ix_nI (by omega)]
    simp (disch := omega) only [forall_eq, upI_s, upI_f, e, nr_1]
    exact c (by omega)
  unfold w_X6_type w_X6_type_b23 w_X4_append
  rw [h12, nar_i2cv]
  refine ⟨hT, hT.o6, ?_⟩
  rcases Nat.lt_or_ge S.len 60 with c | c
  · refine c_idx1 (n := 60) c (by decide) ⟨fun _ => ?_, fun z => absurd z z10⟩
    rw [h12, ix_nI (by omega)]
    simp (disch := omega) only [forall_eq, upI_s, upI_f, h12, nr_1, vpT, true_and, z10, false_implies, not_false_iff, true_implies]
    refine rt _ _ (by rw [upI_f (by omega), upI_f (by omega)]; exact r10) r1 (fun z => absurd z (by omega)) (fun _ => ?_)
    refine hG _ _ ⟨S.text (S.len + 1) (fun i => if i = S.len then i2cv y else S.tx i), ?_, ?_, hW⟩
    · have hc1 := hC.txt (I' := upI (upI I (t + 717) S.len (i2cv y)) (t + 716) 1 (nI (S.len + 1))) (len := S.len + 1) (tx := fun i => if i = S.len then i2cv y else S.tx i) (fun a h1 h2 h3 h4 => by rw [upI_f h3, upI_f h4]) (by omega) (upI_s) (fun i hi => by
        rw [upI_f (by omega)]
        by_cases e : i = S.len
        · subst e; rw [upI_s, if_pos rfl]
        · rw [upI_k e, if_neg e]; exact h13 i (by omega))
      exact hc1.ofR hd (fun a ha => by rw [upI_f (by omega), upI_f (by omega)])
    · refine hR'.txt (fun a h1 h2 h3 => ?_) ?_ ?_ (by omega) (upI_s) (fun i hi => ?_)
      · rw [upI_f h2, upI_f h3, upI_f (by omega), upI_f (by omega)]
      · rw [upI_k (by omega), upI_f (by omega), upI_f (by omega), upI_f (by omega)]
      · rw [upI_k (by omega), upI_f (by omega), upI_f (by omega), upI_f (by omega)]
      · rw [upI_f (by omega)]
        by_cases e : i = S.len
        · subst e; rw [upI_s, if_pos rfl]
        · rw [upI_k e, if_neg e, upI_f (by omega), upI_f (by omega)]; exact r11 i (by omega)
  · have e60 : S.len = 60 := by omega
    refine c_idx0 (fun z => z.2 ?_) ⟨fun z => absurd rfl z, fun _ => ?_⟩
    · rw [e60]; exact Int32.le_refl _
    · simp only [true_implies, not_true, false_implies, and_true]
      exact rt _ _ r10 r1 (fun _ => hG _ _ hRL) (fun z => absurd z (by omega))
theorem p_clear {G : Int32 → Int32 → MI → Prop} (hd : t + 1681 ≤ r) (hC : CT K R t I S) (hR : RT K R r I S) (hW : WS S) (hG : ∀ v I', Rel2 K R t r I' → G v v I') : w_X6_clearText K R t I (fun v I1 => w_X7_clearText K R r I1 (fun v' I2 => G v v' I2)) := by
  have hT := hC.1
  have e1 := hC.2.2.2.2.2.2.2.2.2.2.1
  have e2 := hR.2.2.2.2.2.2.2.2.1
  unfold w_X6_clearText w_X7_clearText
  simp (disch := omega) only [forall_eq, upI_f, e1, e2]
  refine ⟨hT, hR.1, hG _ _ ⟨S.text 0 S.tx, ?_, ?_, hW⟩⟩
  · exact (hC.txt (I' := upI I (t + 716) 1 0) (len := 0) (tx := S.tx) (fun a h1 h2 h3 h4 => by rw [upI_f h3]) (by omega) upI_s (fun i hi => by omega)).ofR hd (fun a ha => by rw [upI_f (by omega)])
  · exact hR.txt (fun a h1 h2 h3 => by rw [upI_f h2, upI_f (by omega)]) (by rw [upI_k (by omega), upI_f (by omega)]) (by rw [upI_k (by omega), upI_f (by omega)]) (by omega) upI_s (fun i hi => by omega)
end SE
