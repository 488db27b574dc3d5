/-! THE WHOLE STATE, and what each side makes of it -/
abbrev St : Type := Sr × Int32 × Sr × Nat × (Nat → Sr) × Nat × (Nat → Int32)
def St.σ (S : St) : Sr := S.1
def St.kp (S : St) : Int32 := S.2.1
def St.κ (S : St) : Sr := S.2.2.1
def St.c (S : St) : Nat := S.2.2.2.1
def St.hs (S : St) : Nat → Sr := S.2.2.2.2.1
def St.len (S : St) : Nat := S.2.2.2.2.2.1
def St.tx (S : St) : Nat → Int32 := S.2.2.2.2.2.2
def CT (K : MK) (R : MR) (t : Nat) (I : MI) (S : St) : Prop := IsTag K R t ∧ RelB (rowB I (t + 1)) S.σ ∧ I t 3 = S.kp ∧ (S.kp = 0 ∨ S.kp = 1) ∧ (S.kp ≠ 0 → RelB (rowB I (t + 477)) S.κ) ∧ (S.c ≤ 4 ∧ I t 5 = nI S.c) ∧ (∀ j, j < 4 → ix (I (t + 715) j) < 4) ∧ (∀ i j, i < 4 → j < 4 → i ≠ j → ix (I (t + 715) i) ≠ ix (I (t + 715) j)) ∧ (∀ j, j < S.c → RelB (rowB I (pastA t (I (t + 715) j))) (S.hs j)) ∧ S.len ≤ 60 ∧ I (t + 716) 1 = nI S.len ∧ ∀ i, i < S.len → I (t + 717) i = S.tx i
def FrC (t : Nat) (I I' : MI) : Prop := ∀ a, (a < t ∨ t + 1681 ≤ a) → I' a = I a
def St.push (S : St) : St := (S.σ, S.kp, S.κ, S.c + 1, (fun j => if j = S.c then S.σ else S.hs j), S.len, S.tx)
def St.drop (S : St) : St := (S.σ, S.kp, S.κ, 3, (fun j => S.hs (j + 1)), S.len, S.tx)
def St.rec' (S : St) : St := if S.c < 4 then S.push else S.drop.push
theorem rec_σ (S : St) : S.rec'.σ = S.σ := by unfold St.rec'; split <;> rfl
theorem rec_kp (S : St) : S.rec'.kp = S.kp := by unfold St.rec'; split <;> rfl
theorem rec_κ (S : St) : S.rec'.κ = S.κ := by unfold St.rec'; split <;> rfl
theorem rec_len (S : St) : S.rec'.len = S.len := by unfold St.rec'; split <;> rfl
theorem rec_tx (S : St) : S.rec'.tx = S.tx := by unfold St.rec'; split <;> rfl
theorem FrC.trans {t : Nat} {I J L : MI} (h : FrC t I J) (g : FrC t J L) : FrC t I L := fun a ha => (g a ha).trans (h a ha)
theorem InvS.cg {σ τ : Sr} (h : InvS σ) (hc : ∀ k, k < 2361 → τ k = σ k) : InvS τ := by
  obtain ⟨T, A, a1, a2, a3, a4, a5, a6, a7, a8, a9, a10, a11⟩ := h
  exact ⟨T, A, by rw [hc _ (by omega)]; exact a1, a2, a3, by rw [hc _ (by omega)]; exact a4, a5, by rw [hc _ (by omega)]; exact a6, by rw [hc _ (by omega)]; exact a7, fun k hk => (a8 k hk).fr (hc _ (by omega)) (Nat.le_refl _), fun m hm => (a9 m hm).fr (fun w hw' => hc _ (by omega)) (fun L j q g0 g1 g2 g3 g4 g5 => ⟨by rw [hc _ (by omega)]; exact g5, hc _ (by omega)⟩) (Nat.le_refl _), fun t ht => (a10 t ht).fr (fun w hw' => hc _ (by omega)) (fun n j q k g0 g1 g2 g3 g4 g5 g6 g7 g8 => ⟨by unfold OnT at g5 ⊢; rw [hc _ (by omega)]; exact g5, hc _ (by omega), hc _ (by omega), hc _ (by omega)⟩) (Nat.le_refl _), fun q hq => (a11 q hq).fr (fun w hw' => hc _ (by omega))⟩
theorem Cn.frb {ρ σ ρ' τ : Sr} (h : Cn ρ σ) (hS : InvS σ) (hx : ∀ k, 2361 ≤ k → k < 2373 → ρ' k = ρ k) (h1 : τ 1 = σ 1) (h4 : τ 4 = σ 4) (hl : ∀ k, k < 8 → τ (13 + k) = σ (13 + k)) (h0 : ∀ q, q < ix (σ 4) → τ (161 + 11 * q + 0) = σ (161 + 11 * q + 0)) (h3 : ∀ q, q < ix (σ 4) → (τ (161 + 11 * q + 4) = 3 ↔ σ (161 + 11 * q + 4) = 3)) (h8 : ∀ q, q < ix (σ 4) → τ (161 + 11 * q + 8) = σ (161 + 11 * q + 8)) : Cn ρ' τ := by
  intro m hm
  obtain ⟨a, b, c⟩ := (h.fr (ρ' := ρ) hS (fun _ _ => rfl) h1 h4 hl h0 h3 h8) m hm
  exact ⟨by rw [hx _ (by omega) (by omega)]; exact a, by rw [hx _ (by omega) (by omega)]; exact b, by rw [hx _ (by omega) (by omega)]; exact c⟩
theorem RelB.cg {ρ σ ρ' σ' : Sr} (h : RelB ρ σ) (hr : ∀ k, k < 2381 → (k < 161 + 11 * ix (σ 4) ∨ 2361 ≤ k) → ρ' k = ρ k) (hs : ∀ k, k < 2361 → σ' k = σ k) : RelB ρ' σ' := by
  obtain ⟨hS, hM, ⟨g1, g2⟩, hL, hC⟩ := h
  obtain ⟨hA4, hA⟩ := hS.A4
  have e4 : σ' 4 = σ 4 := hs 4 (by omega)
  refine ⟨hS.cg hs, by rw [hs 2 (by omega)]; exact hM, ⟨?_, ?_⟩, by rw [hs 5 (by omega), hr 5 (by omega) (by omega)]; exact hL, hC.frb hS (fun k h1 h2 => hr k (by omega) (by omega)) (hs _ (by omega)) e4 (fun k hk => hs _ (by omega)) (fun q hq => hs _ (by omega)) (fun q hq => by rw [hs _ (by omega)]) (fun q hq => hs _ (by omega))⟩
  · rw [e4]
    intro k h1 h2 h3
    rw [hs k (by omega), hr k (by omega) (by omega)]
    exact g1 k h1 h2 h3
  · rw [e4]
    intro q hq ho
    rw [hs _ (by omega), hr _ (by omega) (by omega)]
    refine g2 q hq ?_
    unfold OnT at ho ⊢
    rw [hs _ (by omega)] at ho
    exact ho
theorem rowB_cg {I I' : MI} {b : Nat} (h : ∀ a, b ≤ a → a < b + 238 → I' a = I a) {k : Nat} (hk : k < 2381) : rowB I' b k = rowB I b k := by
  have := cof_lt hk
  unfold rowB
  rw [h _ (by omega) (by omega)]
theorem RelB.fr {I I' : MI} {b : Nat} {σ : Sr} (h : RelB (rowB I b) σ) (hf : ∀ a, b ≤ a → a < b + 238 → I' a = I a) : RelB (rowB I' b) σ := h.cg (fun k hk _ => rowB_cg hf hk) (fun _ _ => rfl)
theorem CT.fr {K : MK} {R : MR} {t : Nat} {I I' : MI} {S : St} (h : CT K R t I S) (hf : ∀ a, t ≤ a → a < t + 1681 → I' a = I a) : CT K R t I' S := by
  obtain ⟨h1, h2, h3, h4, h5, ⟨h6, h7⟩, h8, h9, h10, h11, h12, h13⟩ := h
  have e715 : I' (t + 715) = I (t + 715) := hf _ (by omega) (by omega)
  refine ⟨h1, h2.fr (fun a ha hb => hf a (by omega) (by omega)), by rw [hf t (by omega) (by omega)]; exact h3, h4, fun z => (h5 z).fr (fun a ha hb => hf a (by omega) (by omega)), ⟨h6, by rw [hf t (by omega) (by omega)]; exact h7⟩, by rw [e715]; exact h8, by rw [e715]; exact h9, fun j hj => ?_, h11, by rw [hf _ (by omega) (by omega)]; exact h12, fun i hi => by rw [hf _ (by omega) (by omega)]; exact h13 i hi⟩
  rw [e715]
  have hg := h8 j (by omega)
  exact (h10 j hj).fr (fun a ha hb => hf a (by unfold pastA at ha; omega) (by unfold pastA at hb; omega))
section TG
variable {K : MK} {R : MR} {I J : MI}
theorem c_rec54 {Q : MI → Prop} {t : Nat} {S : St} (h : CT K R t I S) (hc : S.c < 4) (hQ : ∀ I', CT K R t I' S.push → FrC t I I' → (∀ a, t + 716 ≤ a → a < t + 729 → I' a = I a) → Q I') : w_X6_record_b54 K R t Q I := by
  have h0 := h
  obtain ⟨h1, h2, h3, h4, h5, ⟨h6, h7⟩, h8, h9, h10, h11, h12, h13⟩ := h
  have hg := h8 S.c hc
  have hP : pastA t (I (t + 715) S.c) = t + 729 + 238 * ix (I (t + 715) S.c) := rfl
  obtain ⟨hA4, hA⟩ := h2.1.A4
  have hB5 : I (t + 1) 5 = nI (ix (S.σ 4)) := by
    have e := r_b_q (J := I) (b := t + 1) (ρ := rowB I (t + 1))
    rw [stB_self] at e
    rw [e, h2.2.2.1.1 4 (by omega) (by omega) (by omega)]
    exact hA4
  unfold w_X6_record_b54 w_X6_record_b91
  rw [h7]
  refine ⟨h1, c_idx1 (n := 4) hc (by decide) ⟨fun c => absurd c z10, fun _ => ?_⟩⟩
  rw [h7, ix_nI (by omega)]
  refine ⟨vp_in_nI hc (by decide), h1.p4 hg, c_copy (A := ix (S.σ 4)) (h1.p4 hg) h1.o0 (by omega) hB5 hA (fun I6 f1 f2 => ?_)⟩
  intro I7 e7
  subst e7
  have e715 : ∀ a, (a < pastA t (I (t + 715) S.c) ∨ pastA t (I (t + 715) S.c) + 238 ≤ a) → a ≠ t → upI I6 t 5 (I6 t 5 + 1) a = I a := fun a ha hb => by rw [upI_f hb]; exact f1 a ha
  have et : ∀ k, k ≠ 5 → upI I6 t 5 (I6 t 5 + 1) t k = I t k := fun k hk => by rw [upI_k hk, f1 t (by omega)]
  have eg : upI I6 t 5 (I6 t 5 + 1) (t + 715) = I (t + 715) := e715 _ (by omega) (by omega)
  refine hQ _ ⟨h1, h2.fr (fun a ha hb => e715 a (by omega) (by omega)), by rw [et _ (by omega)]; exact h3, h4, fun z => (h5 z).fr (fun a ha hb => e715 a (by omega) (by omega)), ⟨by show S.c + 1 ≤ 4; omega, ?_⟩, by rw [eg]; exact h8, by rw [eg]; exact h9, fun j hj => ?_, h11, by rw [e715 _ (by omega) (by omega)]; exact h12, fun i hi => by rw [e715 _ (by omega) (by omega)]; exact h13 i hi⟩ (fun a ha => e715 a (by omega) (by omega)) (fun a ha hb => e715 a (by omega) (by omega))
  · rw [upI_s, f1 t (by omega), h7, nr_1]
    rfl
  · rw [eg]
    have hj' : j < S.c + 1 := hj
    show RelB _ (if j = S.c then S.σ else S.hs j)
    by_cases e : j = S.c
    · subst e
      rw [if_pos rfl]
      refine h2.cg (fun k hk hk2 => ?_) (fun _ _ => rfl)
      rw [← f2 k hk hk2]
      exact rowB_cg (fun a ha hb => upI_f (by omega)) hk
    · rw [if_neg e]
      have hgj := h8 j (by omega)
      have hne := h9 j S.c (by omega) hc e
      have hPj : pastA t (I (t + 715) j) = t + 729 + 238 * ix (I (t + 715) j) := rfl
      exact (h10 j (by omega)).fr (fun a ha hb => e715 a (by omega) (by omega))
theorem c_recordT {Q : MI → Prop} {t : Nat} {S : St} (h : CT K R t I S) (hQ : ∀ I', CT K R t I' S.rec' → FrC t I I' → (∀ a, t + 716 ≤ a → a < t + 729 → I' a = I a) → Q I') : w_X6_record K R t I Q := by
  have h0 := h
  obtain ⟨h1, h2, h3, h4, h5, ⟨h6, h7⟩, h8, h9, h10, h11, h12, h13⟩ := h
  unfold w_X6_record
  refine ⟨h1, fun c => ?_, fun c => ?_⟩
  · rw [h7] at c
    have hc : S.c < 4 := (nI_ltI (b := 4) (by omega) (by decide)).mp c
    refine c_rec54 h0 hc ?_
    unfold St.rec' at hQ
    rw [if_pos hc] at hQ
    exact hQ
  · rw [h7] at c
    have hc : ¬ S.c < 4 := fun z => c ((nI_ltI (b := 4) (by omega) (by decide)).mpr z)
    have hc4 : S.c = 4 := by omega
    unfold St.rec' at hQ
    rw [if_neg hc] at hQ
    have hg0 := h8 0 (by omega)
    have hg1 := h8 1 (by omega)
    have hg2 := h8 2 (by omega)
    have hg3 := h8 3 (by omega)
    unfold w_X6_record_b17
    intro X hX
    have step : ∀ (I1 : MI) (y : Nat), 1 ≤ y → y < 4 → I1 (t + 715) y = I (t + 715) y → X (I (t + 715) 0) (nI (y + 1)) (upI I1 (t + 715) (y - 1) (I (t + 715) y)) → X (I (t + 715) 0) (nI y) I1 := by
      intro I1 y y1 y4 ey hx
      refine hX _ _ _ ?_
      have hle : ¬ 4 ≤ y := by omega
      unfold w_X6_record_b17_body
      obtain ⟨y', rfl⟩ : ∃ y', y = y' + 1 := ⟨y - 1, by omega⟩
      simp (disch := omega) only [ll_4, hle, false_implies, not_false_iff, true_implies, true_and, vpT, ix_nI, nI_s1, nr_1, forall_eq, ey]
      exact ⟨h1, h1.p4 (h8 _ (by omega)), hx⟩
    have hX0 : X (I (t + 715) 0) (nI 1) I := by
      refine step I 1 (by omega) (by omega) rfl ?_
      refine step _ 2 (by omega) (by omega) (by rw [upI_k (by omega)]) ?_
      refine step _ 3 (by omega) (by omega) (by rw [upI_k (by omega), upI_k (by omega)]) ?_
      refine hX _ _ _ ?_
      unfold w_X6_record_b17_body
      simp (disch := omega) only [show ((4 : Int32) ≤ nI (3 + 1)) = True from eq_true (by decide), true_implies, not_true, false_implies, and_true, forall_eq]
      refine ⟨h1, h1.p4 hg0, ?_⟩
      have q0 : ∀ (Z : MI), Z = upI (upI (upI (upI (upI I (t + 715) (1 - 1) (I (t + 715) 1)) (t + 715) (2 - 1) (I (t + 715) 2)) (t + 715) (3 - 1) (I (t + 715) 3)) (t + 715) 3 (I (t + 715) 0)) t 5 3 → w_X6_record_b54 K R t Q Z := by
        intro Z eZ
        have z0 : Z (t + 715) 0 = I (t + 715) 1 := by rw [eZ]; simp (disch := omega) only [upI_f, upI_k, upI_s, Nat.sub_self]
        have z1 : Z (t + 715) 1 = I (t + 715) 2 := by rw [eZ]; simp (disch := omega) only [upI_f, upI_k, upI_s, show 2 - 1 = 1 from rfl]
        have z2 : Z (t + 715) 2 = I (t + 715) 3 := by rw [eZ]; simp (disch := omega) only [upI_f, upI_k, upI_s, show 3 - 1 = 2 from rfl]
        have z3 : Z (t + 715) 3 = I (t + 715) 0 := by rw [eZ]; simp (disch := omega) only [upI_f, upI_s]
        have zt : ∀ k, k ≠ 5 → Z t k = I t k := fun k hk => by rw [eZ]; simp (disch := omega) only [upI_f, upI_k]
        have z5 : Z t 5 = nI 3 := by rw [eZ, upI_s]; rfl
        have zo : ∀ a, a ≠ t → a ≠ t + 715 → Z a = I a := fun a ha hb => by rw [eZ]; simp (disch := omega) only [upI_f]
        have zz : ∀ j, j < 4 → Z (t + 715) j = I (t + 715) ((j + 1) % 4) := fun j hj => by
          have : j = 0 ∨ j = 1 ∨ j = 2 ∨ j = 3 := by omega
          rcases this with rfl | rfl | rfl | rfl
          · exact z0
          · exact z1
          · exact z2
          · exact z3
        refine c_rec54 (S := S.drop) ⟨h1, h2.fr (fun a ha hb => zo a (by omega) (by omega)), by rw [zt _ (by omega)]; exact h3, h4, fun z => (h5 z).fr (fun a ha hb => zo a (by omega) (by omega)), ⟨by show 3 ≤ 4; omega, z5⟩, fun j hj => by rw [zz j hj]; exact h8 _ (by omega), fun i j hi hj hij => by rw [zz j hj, zz i hi]; exact h9 _ _ (by omega) (by omega) (by omega), fun j hj => ?_, h11, by rw [zo _ (by omega) (by omega)]; exact h12, fun i hi => by rw [zo _ (by omega) (by omega)]; exact h13 i hi⟩ (by show 3 < 4; omega) (fun I' a b g => hQ I' a (fun c hc => (b c hc).trans (zo c (by omega) (by omega))) (fun c hc hd => (g c hc hd).trans (zo c (by omega) (by omega))))
        have hj3 : j < 3 := hj
        rw [zz j (by omega), Nat.mod_eq_of_lt (by omega)]
        have hgj := h8 (j + 1) (by omega)
        have hPj : pastA t (I (t + 715) (j + 1)) = t + 729 + 238 * ix (I (t + 715) (j + 1)) := rfl
        exact (h10 (j + 1) (by omega)).fr (fun a ha hb => zo a (by omega) (by omega))
      exact q0 _ rfl
    exact hX0
theorem c_record {Q : MI → Prop} {t : Nat} {S : St} (h : CT K R t I S) (hQ : ∀ I', CT K R t I' S.rec' → FrC t I I' → Q I') : w_X6_record K R t I Q := c_recordT h (fun I' a b _ => hQ I' a b)
end TG
