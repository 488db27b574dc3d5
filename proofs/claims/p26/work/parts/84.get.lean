section KG
variable {K : MK} {R : MR} {I J : MI} {t : Nat} {S : St} {Q : Int32 → MI → Prop}
theorem k_q0 (hC : CT K R t I S) {q : Nat} (hq : q < ix (S.σ 4)) (h : Q (S.σ (161 + 11 * q + 0)) I) : w_X6_question K R t (nI q) 0 I Q := by
  have hT := hC.1
  have hB := hT.o0
  obtain ⟨b5, bA⟩ := bus5 hC.2.1
  have hQ := hB.p4 (i := q) (by omega)
  have e : I (t + 1 + 38 + q) 0 = S.σ (161 + 11 * q + 0) := hC.rd (so_w q (by omega) 0 (by omega)) (by omega) (by omega) (by omega) (by omega)
  unfold w_X6_question
  refine ⟨hT, c_questionAt hB b5 bA hq ⟨fun z => (by cases z), fun r4 e4 => ?_⟩⟩
  cases e4
  exact ⟨fun _ => ⟨hQ, by rw [e]; exact h⟩, fun z => absurd z (by decide), fun z => absurd z (by decide), fun z => absurd z (by decide), fun z => absurd z (by decide), fun z => absurd z (by decide), fun z => absurd z (by decide), fun z => absurd z (by decide), fun z => absurd z (by decide), fun z => absurd z (by decide)⟩
theorem k_q4 (hC : CT K R t I S) {q : Nat} (hq : q < ix (S.σ 4)) (h : Q (S.σ (161 + 11 * q + 4)) I) : w_X6_question K R t (nI q) 4 I Q := by
  have hT := hC.1
  have hB := hT.o0
  obtain ⟨b5, bA⟩ := bus5 hC.2.1
  have hQ := hB.p4 (i := q) (by omega)
  have e : I (t + 1 + 38 + q) 4 = S.σ (161 + 11 * q + 4) := hC.rd (so_w q (by omega) 4 (by omega)) (by omega) (by omega) (by omega) (by omega)
  unfold w_X6_question
  refine ⟨hT, c_questionAt hB b5 bA hq ⟨fun z => (by cases z), fun r4 e4 => ?_⟩⟩
  cases e4
  exact ⟨fun z => absurd z (by decide), fun z => absurd z (by decide), fun z => absurd z (by decide), fun z => absurd z (by decide), fun _ => ⟨hQ, by rw [e]; exact h⟩, fun z => absurd z (by decide), fun z => absurd z (by decide), fun z => absurd z (by decide), fun z => absurd z (by decide), fun z => absurd z (by decide)⟩
theorem k_q5 (hC : CT K R t I S) {q : Nat} (hq : q < ix (S.σ 4)) (h : Q (S.σ (161 + 11 * q + 5)) I) : w_X6_question K R t (nI q) 5 I Q := by
  have hT := hC.1
  have hB := hT.o0
  obtain ⟨b5, bA⟩ := bus5 hC.2.1
  have hQ := hB.p4 (i := q) (by omega)
  have e : I (t + 1 + 38 + q) 5 = S.σ (161 + 11 * q + 5) := hC.rd (so_w q (by omega) 5 (by omega)) (by omega) (by omega) (by omega) (by omega)
  unfold w_X6_question
  refine ⟨hT, c_questionAt hB b5 bA hq ⟨fun z => (by cases z), fun r4 e4 => ?_⟩⟩
  cases e4
  exact ⟨fun z => absurd z (by decide), fun z => absurd z (by decide), fun z => absurd z (by decide), fun z => absurd z (by decide), fun z => absurd z (by decide), fun _ => ⟨hQ, by rw [e]; exact h⟩, fun z => absurd z (by decide), fun z => absurd z (by decide), fun z => absurd z (by decide), fun z => absurd z (by decide)⟩
theorem k_q8 (hC : CT K R t I S) {q : Nat} (hq : q < ix (S.σ 4)) (h : Q (S.σ (161 + 11 * q + 9)) I) : w_X6_question K R t (nI q) 8 I Q := by
  have hT := hC.1
  have hB := hT.o0
  obtain ⟨b5, bA⟩ := bus5 hC.2.1
  have hQ := hB.p4 (i := q) (by omega)
  have e : I (t + 1 + 38 + q) 10 = S.σ (161 + 11 * q + 9) := hC.rd (so_wa q (by omega)) (by omega) (by omega) (by omega) (by omega)
  unfold w_X6_question
  refine ⟨hT, c_questionAt hB b5 bA hq ⟨fun z => (by cases z), fun r4 e4 => ?_⟩⟩
  cases e4
  exact ⟨fun z => absurd z (by decide), fun z => absurd z (by decide), fun z => absurd z (by decide), fun z => absurd z (by decide), fun z => absurd z (by decide), fun z => absurd z (by decide), fun z => absurd z (by decide), fun z => absurd z (by decide), fun _ => ⟨hQ, by rw [e]; exact h⟩, fun z => absurd z (by decide)⟩
theorem k_n0 (hC : CT K R t I S) (h : Q (S.σ 0) I) : w_X6_count K R t 0 I Q := by
  have hT := hC.1
  have e : I (t + 1) 6 = S.σ 0 := hC.rd (so_tk) (by omega) (by omega) (by omega) (by omega)
  unfold w_X6_count
  exact ⟨fun _ => ⟨hT, by rw [e]; exact h⟩, fun z => absurd z (by decide), fun z => absurd z (by decide), fun z => absurd z (by decide), fun z => absurd z (by decide), fun z => absurd z (by decide), fun z => absurd z (by decide), fun z => absurd z (by decide), fun z => absurd z (by decide), fun z => absurd z (by decide), fun z => absurd z (by decide), fun z => absurd z (by decide), fun z => absurd z (by decide), fun z => absurd z (by decide)⟩
theorem k_n1 (hC : CT K R t I S) (h : Q (S.σ 1) I) : w_X6_count K R t 1 I Q := by
  have hT := hC.1
  have e : I (t + 1 + 1) 0 = S.σ 1 := hC.rd (so_set 0 (by omega)) (by omega) (by omega) (by omega) (by omega)
  unfold w_X6_count
  exact ⟨fun z => absurd z (by decide), fun _ => ⟨hT, by rw [e]; exact h⟩, fun z => absurd z (by decide), fun z => absurd z (by decide), fun z => absurd z (by decide), fun z => absurd z (by decide), fun z => absurd z (by decide), fun z => absurd z (by decide), fun z => absurd z (by decide), fun z => absurd z (by decide), fun z => absurd z (by decide), fun z => absurd z (by decide), fun z => absurd z (by decide), fun z => absurd z (by decide)⟩
theorem k_n4 (hC : CT K R t I S) (h : Q (S.σ 4) I) : w_X6_count K R t 4 I Q := by
  have hT := hC.1
  have e : I (t + 1) 5 = S.σ 4 := hC.rd (so_q) (by omega) (by omega) (by omega) (by omega)
  unfold w_X6_count
  exact ⟨fun z => absurd z (by decide), fun z => absurd z (by decide), fun z => absurd z (by decide), fun z => absurd z (by decide), fun _ => ⟨hT, by rw [e]; exact h⟩, fun z => absurd z (by decide), fun z => absurd z (by decide), fun z => absurd z (by decide), fun z => absurd z (by decide), fun z => absurd z (by decide), fun z => absurd z (by decide), fun z => absurd z (by decide), fun z => absurd z (by decide), fun z => absurd z (by decide)⟩
theorem k_n6 (hC : CT K R t I S) (h : Q (S.σ 8) I) : w_X6_count K R t 6 I Q := by
  have hT := hC.1
  have e : I (t + 1) 10 = S.σ 8 := hC.rd (so_at) (by omega) (by omega) (by omega) (by omega)
  unfold w_X6_count
  exact ⟨fun z => absurd z (by decide), fun z => absurd z (by decide), fun z => absurd z (by decide), fun z => absurd z (by decide), fun z => absurd z (by decide), fun z => absurd z (by decide), fun _ => ⟨hT, by rw [e]; exact h⟩, fun z => absurd z (by decide), fun z => absurd z (by decide), fun z => absurd z (by decide), fun z => absurd z (by decide), fun z => absurd z (by decide), fun z => absurd z (by decide), fun z => absurd z (by decide)⟩
theorem k_n7 (hC : CT K R t I S) (h : Q (S.σ 9) I) : w_X6_count K R t 7 I Q := by
  have hT := hC.1
  have e : I (t + 1) 11 = S.σ 9 := hC.rd (so_qt) (by omega) (by omega) (by omega) (by omega)
  unfold w_X6_count
  exact ⟨fun z => absurd z (by decide), fun z => absurd z (by decide), fun z => absurd z (by decide), fun z => absurd z (by decide), fun z => absurd z (by decide), fun z => absurd z (by decide), fun z => absurd z (by decide), fun _ => ⟨hT, by rw [e]; exact h⟩, fun z => absurd z (by decide), fun z => absurd z (by decide), fun z => absurd z (by decide), fun z => absurd z (by decide), fun z => absurd z (by decide), fun z => absurd z (by decide)⟩
theorem k_n8 (hC : CT K R t I S) (h : Q (S.σ 10) I) : w_X6_count K R t 8 I Q := by
  have hT := hC.1
  have e : I (t + 1) 12 = S.σ 10 := hC.rd (so_rt) (by omega) (by omega) (by omega) (by omega)
  unfold w_X6_count
  exact ⟨fun z => absurd z (by decide), fun z => absurd z (by decide), fun z => absurd z (by decide), fun z => absurd z (by decide), fun z => absurd z (by decide), fun z => absurd z (by decide), fun z => absurd z (by decide), fun z => absurd z (by decide), fun _ => ⟨hT, by rw [e]; exact h⟩, fun z => absurd z (by decide), fun z => absurd z (by decide), fun z => absurd z (by decide), fun z => absurd z (by decide), fun z => absurd z (by decide)⟩
theorem k_n9 (hC : CT K R t I S) (h : Q (S.σ 11) I) : w_X6_count K R t 9 I Q := by
  have hT := hC.1
  have e : I (t + 1) 13 = S.σ 11 := hC.rd (so_id) (by omega) (by omega) (by omega) (by omega)
  unfold w_X6_count
  exact ⟨fun z => absurd z (by decide), fun z => absurd z (by decide), fun z => absurd z (by decide), fun z => absurd z (by decide), fun z => absurd z (by decide), fun z => absurd z (by decide), fun z => absurd z (by decide), fun z => absurd z (by decide), fun z => absurd z (by decide), fun _ => ⟨hT, by rw [e]; exact h⟩, fun z => absurd z (by decide), fun z => absurd z (by decide), fun z => absurd z (by decide), fun z => absurd z (by decide)⟩
theorem k_n5 (hC : CT K R t I S) (h : Q (nI (cnt (frB S.σ) (Tg_ S.σ))) I) : w_X6_count K R t 5 I Q := by
  have hT := hC.1
  have h2 := c_freeTags (K := K) (R := R) (J := I) (b := t + 1) (ρ := rowB I (t + 1)) (σ := S.σ) (Q := Q) hT.o0 hC.2.1.1 hC.2.1.2.2.1.1
  rw [stB_self] at h2
  unfold w_X6_count
  exact ⟨fun z => absurd z (by decide), fun z => absurd z (by decide), fun z => absurd z (by decide), fun z => absurd z (by decide), fun z => absurd z (by decide), fun _ => ⟨hT, h2 h⟩, fun z => absurd z (by decide), fun z => absurd z (by decide), fun z => absurd z (by decide), fun z => absurd z (by decide), fun z => absurd z (by decide), fun z => absurd z (by decide), fun z => absurd z (by decide), fun z => absurd z (by decide)⟩
theorem k_m0 (hC : CT K R t I S) {m : Nat} (hm : m < 4) (h : Q (S.σ (21 + 11 * m + 0)) I) : w_X6_master K R t (nI m) 0 I Q := by
  have hT := hC.1
  have hB := hT.o0
  have hMs := hB.p2 (i := m) hm
  obtain ⟨cn1, cn2, cn3⟩ := hC.2.1.2.2.2.2 m hm
  have rx : ∀ k s, slotO (6 + 3 * m) s = some k → I (t + 1 + 6 + 3 * m) s = rowB I (t + 1) k := fun k s hs => by
    have := stB_at (J := I) (ρ := rowB I (t + 1)) (a := t + 1 + 6 + 3 * m) (b := t + 1) hs (by omega)
    rw [stB_self] at this
    exact this
  have e : I (t + 1 + 6 + 3 * m + 1) 1 = S.σ (21 + 11 * m + 0) := hC.rd (so_ml m hm) (by omega) (by omega) (by omega) (by omega)
  unfold w_X6_master w_X6_master_b139
  refine ⟨hT, c_masterAt hB hm ⟨fun z => (by cases z), fun r4 e4 => ?_⟩⟩
  cases e4
  exact ⟨fun _ => ⟨hMs, by rw [e]; exact h⟩, fun z => absurd z (by decide), fun z => absurd z (by decide), fun z => absurd z (by decide), fun z => absurd z (by decide), fun z => absurd z (by decide), fun z => absurd z (by decide), fun z => absurd z (by decide), fun z => absurd z (by decide), fun z => absurd z (by decide)⟩
theorem k_m2 (hC : CT K R t I S) {m : Nat} (hm : m < 4) (h : Q (nI (holdsN S.σ m)) I) : w_X6_master K R t (nI m) 2 I Q := by
  have hT := hC.1
  have hB := hT.o0
  have hMs := hB.p2 (i := m) hm
  obtain ⟨cn1, cn2, cn3⟩ := hC.2.1.2.2.2.2 m hm
  have rx : ∀ k s, slotO (6 + 3 * m) s = some k → I (t + 1 + 6 + 3 * m) s = rowB I (t + 1) k := fun k s hs => by
    have := stB_at (J := I) (ρ := rowB I (t + 1)) (a := t + 1 + 6 + 3 * m) (b := t + 1) hs (by omega)
    rw [stB_self] at this
    exact this
  have e : I (t + 1 + 6 + 3 * m) 2 = nI (holdsN S.σ m) := by rw [rx _ _ (so_m2 m hm)]; exact cn1
  unfold w_X6_master w_X6_master_b139
  refine ⟨hT, c_masterAt hB hm ⟨fun z => (by cases z), fun r4 e4 => ?_⟩⟩
  cases e4
  exact ⟨fun z => absurd z (by decide), fun z => absurd z (by decide), fun _ => ⟨hMs, by rw [e]; exact h⟩, fun z => absurd z (by decide), fun z => absurd z (by decide), fun z => absurd z (by decide), fun z => absurd z (by decide), fun z => absurd z (by decide), fun z => absurd z (by decide), fun z => absurd z (by decide)⟩
theorem k_m6 (hC : CT K R t I S) {m : Nat} (hm : m < 4) (h : Q (nI (ansN S.σ m)) I) : w_X6_master K R t (nI m) 6 I Q := by
  have hT := hC.1
  have hB := hT.o0
  have hMs := hB.p2 (i := m) hm
  obtain ⟨cn1, cn2, cn3⟩ := hC.2.1.2.2.2.2 m hm
  have rx : ∀ k s, slotO (6 + 3 * m) s = some k → I (t + 1 + 6 + 3 * m) s = rowB I (t + 1) k := fun k s hs => by
    have := stB_at (J := I) (ρ := rowB I (t + 1)) (a := t + 1 + 6 + 3 * m) (b := t + 1) hs (by omega)
    rw [stB_self] at this
    exact this
  have e : I (t + 1 + 6 + 3 * m) 6 = nI (ansN S.σ m) := by rw [rx _ _ (so_m6 m hm)]; exact cn2
  unfold w_X6_master w_X6_master_b139
  refine ⟨hT, c_masterAt hB hm ⟨fun z => (by cases z), fun r4 e4 => ?_⟩⟩
  cases e4
  exact ⟨fun z => absurd z (by decide), fun z => absurd z (by decide), fun z => absurd z (by decide), fun z => absurd z (by decide), fun z => absurd z (by decide), fun z => absurd z (by decide), fun _ => ⟨hMs, by rw [e]; exact h⟩, fun z => absurd z (by decide), fun z => absurd z (by decide), fun z => absurd z (by decide)⟩
theorem k_t3 (hC : CT K R t I S) {m : Nat} (hm : m < 4) (h : Q (S.σ (65 + 24 * m + 19)) I) : w_X6_target K R t (nI m) 3 I Q := by
  have hT := hC.1
  have hB := hT.o0
  have hMs := hB.p3 (i := m) hm
  have e : I (t + 1 + 18 + 5 * m + 3) 1 = S.σ (65 + 24 * m + 19) := hC.rd (so_tl m hm) (by omega) (by omega) (by omega) (by omega)
  have h2 := c_doneIn (K := K) (R := R) (J := I) (b := t + 1) (m := m) (ρ := rowB I (t + 1)) (σ := S.σ) (Q := Q) hB hC.2.1.1 hC.2.1.2.2.1 hm
  rw [stB_self] at h2
  unfold w_X6_target
  refine ⟨hT, c_targetAt hB hm ⟨fun z => (by cases z), fun r4 e4 => ?_⟩⟩
  cases e4
  exact ⟨fun z => absurd z (by decide), fun z => absurd z (by decide), fun z => absurd z (by decide), fun _ => ⟨hMs, by rw [e]; exact h⟩, fun z => absurd z (by decide), fun z => absurd z (by decide), fun z => absurd z (by decide)⟩
theorem k_t4 (hC : CT K R t I S) {m : Nat} (hm : m < 4) (h : Q (nI (cnt (dnB S.σ m) (inN S.σ m))) I) : w_X6_target K R t (nI m) 4 I Q := by
  have hT := hC.1
  have hB := hT.o0
  have hMs := hB.p3 (i := m) hm
  have e : I (t + 1 + 18 + 5 * m + 3) 1 = S.σ (65 + 24 * m + 19) := hC.rd (so_tl m hm) (by omega) (by omega) (by omega) (by omega)
  have h2 := c_doneIn (K := K) (R := R) (J := I) (b := t + 1) (m := m) (ρ := rowB I (t + 1)) (σ := S.σ) (Q := Q) hB hC.2.1.1 hC.2.1.2.2.1 hm
  rw [stB_self] at h2
  unfold w_X6_target
  refine ⟨hT, c_targetAt hB hm ⟨fun z => (by cases z), fun r4 e4 => ?_⟩⟩
  cases e4
  exact ⟨fun z => absurd z (by decide), fun z => absurd z (by decide), fun z => absurd z (by decide), fun z => absurd z (by decide), fun _ => h2 h, fun z => absurd z (by decide), fun z => absurd z (by decide)⟩
theorem k_tag (hC : CT K R t I S) {k : Nat} (hk : k < Tg_ S.σ) (h : Q (S.σ (13 + k)) I) : w_X6_tag K R t (nI k) I Q := by
  have hT := hC.1
  obtain ⟨eT, h1, h8⟩ := hC.2.1.1.T1
  have e1 : I (t + 1 + 1) 0 = nI (Tg_ S.σ) := by rw [hC.rd (so_set 0 (by omega)) (by omega) (by omega) (by omega) (by omega)]; exact eT
  unfold w_X6_tag w_X6_tag_b25
  rw [e1]
  refine ⟨hT, c_idx1 hk (by omega) ⟨fun z => absurd z z10, fun _ => c_idx1 (n := 8) (by omega) (by decide) ⟨fun _ => ⟨vp_in_nI (by omega) (by decide), ?_⟩, fun z => absurd z z10⟩⟩⟩
  rw [ix_nI (by omega), hC.rd (a := t + 1 + 2) (so_lent k (by omega)) (by omega) (by omega) (by omega) (by omega)]
  exact h
theorem k_tagT (hC : CT K R t I S) (h : Q (-1) I) : w_X6_tag K R t (nI (Tg_ S.σ)) I Q := by
  have hT := hC.1
  obtain ⟨eT, h1, h8⟩ := hC.2.1.1.T1
  have e1 : I (t + 1 + 1) 0 = nI (Tg_ S.σ) := by rw [hC.rd (so_set 0 (by omega)) (by omega) (by omega) (by omega) (by omega)]; exact eT
  unfold w_X6_tag w_X6_tag_b25
  rw [e1]
  exact ⟨hT, c_idxN (by omega) (fun j hj e => by have := nI_inj (by omega) (by omega) e; omega) ⟨fun _ => h, fun z => absurd rfl z⟩⟩
theorem k_row (hC : CT K R t I S) {m j : Nat} (hm : m < 4) (hj : j < loN S.σ m) (h : Q (nI (rwq S.σ m j)) I) : w_X6_row K R t (nI m) (nI j) I Q := by
  have hT := hC.1
  have hB := hT.o0
  obtain ⟨hL6, eL, hjj⟩ := hC.2.1.1.rows hm
  have e1 : I (t + 1 + 6 + 3 * m + 1) 1 = nI (loN S.σ m) := by rw [hC.rd (so_ml m hm) (by omega) (by omega) (by omega) (by omega)]; exact eL
  unfold w_X6_row
  refine ⟨hT, c_masterAt hB hm ⟨fun z => (by cases z), fun r4 e4 => ?_⟩⟩
  cases e4
  refine ⟨fun _ => ⟨hB.p2 hm, c_at (n := loN S.σ m) (hB.p2 (i := m) hm).o0 e1 hL6 hj ?_⟩, fun z => absurd (nI_pos' (by omega)) z⟩
  rw [hC.rd (a := t + 1 + 6 + 3 * m + 1 + 1) (so_mr m hm j (by omega)) (by omega) (by omega) (by omega) (by omega), (hjj j hj).2.2.1]
  exact h
theorem k_rowN (hC : CT K R t I S) {m : Nat} (hm : m < 4) (h : Q (-5) I) : w_X6_row K R t (nI m) (nI (loN S.σ m)) I Q := by
  have hT := hC.1
  have hB := hT.o0
  obtain ⟨hL6, eL, hjj⟩ := hC.2.1.1.rows hm
  have e1 : I (t + 1 + 6 + 3 * m + 1) 1 = nI (loN S.σ m) := by rw [hC.rd (so_ml m hm) (by omega) (by omega) (by omega) (by omega)]; exact eL
  unfold w_X6_row
  refine ⟨hT, c_masterAt hB hm ⟨fun z => (by cases z), fun r4 e4 => ?_⟩⟩
  cases e4
  exact ⟨fun _ => ⟨hB.p2 hm, c_atN (n := loN S.σ m) (hB.p2 (i := m) hm).o0 e1 hL6 (fun j hj e => by have := nI_inj (by omega) (by omega) e; omega) h⟩, fun z => absurd (nI_pos' (by omega)) z⟩
theorem k_next {x : Int32} (hC : CT K R t I S) (hx : x = 0 ∨ x = 1) (h : ∀ I', CT K R t I' S → Q (if x = 0 then tickQ S.σ else tickK S.σ) I') : w_X6_next K R t x I Q := by
  have hT := hC.1
  have hS := hC.2.1.1
  obtain ⟨b5, bA⟩ := bus5 hC.2.1
  have hQK := tickQ_K hS
  have main : w_X6_next_b12 K R t x Q I := by
    unfold w_X6_next_b12 w_X6_next_b55
    refine ⟨hT, c_copy hT.o1 hT.o0 (by omega) b5 bA (fun I2 f1 f2 => ?_)⟩
    have hrel : RelB (rowB I2 (t + 239)) S.σ := hC.2.1.cg (fun k h1 h2 => f2 k h1 h2) (fun _ _ => rfl)
    have h := c_tick (K := K) (R := R) (J := I2) (b := t + 239) (ρ := rowB I2 (t + 239)) (σ := S.σ) (Q := fun v4 I3 => ((¬ v4 = (-5:Int32) → ((¬ x = 0 → Q (I3 (t + 239) 7) I3) ∧ (x = 0 → Q v4 I3))) ∧ (v4 = (-5:Int32) → Q (-5) I3))) hT.o1 hrel (fun ρ' hr hk => by
      have hf : CT K R t (stB I2 (t + 239) ρ') S := hC.tr (fun a ha => by
        funext j
        rw [stB_o (by omega), f1 a (by omega)])
      have h' := h _ hf
      refine ⟨fun z => ⟨fun z0 => ?_, fun z0 => ?_⟩, fun z => ?_⟩
      · rw [if_neg z0] at h'
        rw [r_b_lt, hk (fun q => z (hQK.mpr q))]
        exact h'
      · rw [if_pos z0] at h'
        exact h'
      · by_cases z0 : x = 0
        · rw [if_pos z0, z] at h'; exact h'
        · rw [if_neg z0, hQK.mp z] at h'; exact h')
    rw [stB_self] at h
    exact h
  unfold w_X6_next
  rcases hx with hx | hx
  · exact ⟨fun _ => main, fun z => absurd hx z⟩
  · exact ⟨fun _ => main, fun _ => ⟨fun _ => main, fun z => absurd hx z⟩⟩
theorem k_answeredIn (hC : CT K R t I S) {q : Nat} (hq : q < ix (S.σ 4)) (h4 : (S.σ (161 + 11 * q + 4) = 3 ∨ S.σ (161 + 11 * q + 4) = 4) → Q (-4) I) (h : S.σ (161 + 11 * q + 4) ≠ 3 → S.σ (161 + 11 * q + 4) ≠ 4 → ∀ v I', CT K R t I' S → (v = -5 ∨ ∃ n, 1 ≤ n ∧ n ≤ 999 ∧ v = nI n ∧ tkN S.σ n (161 + 11 * q + 4) = 3 ∧ ∀ j, j < n → tkN S.σ j (161 + 11 * q + 4) ≠ 3) → Q v I') : w_X6_answeredIn K R t (nI q) I Q := by
  have hT := hC.1
  have hB := hT.o0
  have hS := hC.2.1.1
  obtain ⟨b5, bA⟩ := bus5 hC.2.1
  have hQ := hB.p4 (i := q) (by omega)
  have ew : I (t + 1 + 38 + q) 4 = S.σ (161 + 11 * q + 4) := hC.rd (so_w q (by omega) 4 (by omega)) (by omega) (by omega) (by omega) (by omega)
  unfold w_X6_answeredIn
  refine ⟨hT, c_questionAt hB b5 bA hq ⟨fun z => (by cases z), fun r4 e4 => ?_⟩⟩
  cases e4
  rw [ew]
  unfold w_X6_answeredIn_b31
  refine ⟨hQ, fun e => h4 (Or.inl e), fun e => ⟨fun e2 => ?_, fun e2 => h4 (Or.inr e2)⟩⟩
  have hh := h e e2
  refine c_copy hT.o1 hT.o0 (by omega) b5 bA (fun I2 f1 f2 => ?_)
  have hrel : RelB (rowB I2 (t + 239)) S.σ := hC.2.1.cg (fun k h1 h2 => f2 k h1 h2) (fun _ _ => rfl)
  have hf : ∀ ρ', CT K R t (stB I2 (t + 239) ρ') S := fun ρ' => hC.tr (fun a ha => by
    funext j
    rw [stB_o (by omega), f1 a (by omega)])
  unfold w_X6_answeredIn_b47
  intro X hX
  have key : ∀ d k, k + d = 999 → ∀ ρ, RelB ρ (tkN S.σ k) → (∀ j, j ≤ k → tkN S.σ j (161 + 11 * q + 4) ≠ 3) → X (nI (k + 1)) (stB I2 (t + 239) ρ) := by
    intro d
    induction d with
    | zero =>
      intro k hk ρ hρ hno
      have : k = 999 := by omega
      subst this
      refine hX _ _ ?_
      unfold w_X6_answeredIn_b47_body
      exact ⟨fun _ => hh _ _ (hf _) (Or.inl rfl), fun z => absurd (show (999 : Int32) < nI (999 + 1) by decide) z⟩
    | succ d ih =>
      intro k hk ρ hρ hno
      refine hX _ _ ?_
      have hlt : ¬ (999 : Int32) < nI (k + 1) := fun z => by have := (nI_ltI (a := 999) (b := k + 1) (by omega) (by omega)).mp z; omega
      unfold w_X6_answeredIn_b47_body w_X6_answeredIn_b78
      refine ⟨fun z => absurd z hlt, fun _ => ⟨hT, c_tick hT.o1 hρ (fun ρ' hr hk' => ?_)⟩⟩
      have hA4 : tkN S.σ k 4 = S.σ 4 := tkN_4 hS k
      have hans := tick_ans (tkN_inv hS k) (q := q) (by rw [hA4]; exact hq) (hno k (by omega))
      have next : ¬ (tickQ (tkN S.σ k) = nI q ∧ tickK (tkN S.σ k) = 1) → X (nI (k + 1 + 1)) (stB I2 (t + 239) ρ') := fun z => ih (k + 1) (by omega) ρ' hr (fun j hj => by
        by_cases e : j = k + 1
        · subst e; exact fun c => z (hans.mp c)
        · exact hno j (by omega))
      rw [r_b_lt, nr_1]
      refine ⟨fun c => next (fun z => c z.1), fun c => ⟨fun c2 => next (fun z => c2 ?_), fun c2 => ?_⟩⟩
      · rw [hk' (by rw [z.2]; decide)]; exact z.2
      · have hK5 : tickK (tkN S.σ k) ≠ -5 := fun z => by
          have := (tickQ_K (tkN_inv hS k)).mpr z
          rw [c] at this
          exact nI_ne5 (by omega) this
        rw [hk' hK5] at c2
        exact hh _ _ (hf _) (Or.inr ⟨k + 1, by omega, by omega, rfl, hans.mpr ⟨c, c2⟩, fun j hj => hno j (by omega)⟩)
  have := key 999 0 (by omega) (rowB I2 (t + 239)) hrel (fun j hj => by
    have : j = 0 := by omega
    subst this
    exact e)
  rw [stB_self] at this
  exact this
theorem k_undo (hC : CT K R t I S) (c1 : 1 ≤ S.c) (h : ∀ v I', CT K R t I' (S.pop (S.hs (S.c - 1))) → Q v I') : w_X6_undo K R t I Q := by
  have hT := hC.1
  obtain ⟨g1, g2, h3, h4, h5, ⟨h6, h7⟩, h8, h9, h10, h11, h12, h13⟩ := hC
  unfold w_X6_undo
  rw [h7]
  refine ⟨hT, ?_⟩
  rw [nI_sub1 c1]
  have hc : S.c - 1 < 4 := by omega
  have hg := h8 (S.c - 1) hc
  have hP : pastA t (I (t + 715) (S.c - 1)) = t + 729 + 238 * ix (I (t + 715) (S.c - 1)) := rfl
  have hrel := h10 (S.c - 1) (by omega)
  obtain ⟨b5, bA⟩ := bus5 hrel
  refine c_idx1 (n := 4) hc (by decide) ⟨fun _ => ⟨vp_in_nI hc (by decide), ?_⟩, fun z => absurd z z10⟩
  rw [ix_nI (by omega)]
  refine c_copy hT.o0 (hT.p4 hg) (by omega) b5 bA (fun I5 f1 f2 => ?_)
  intro I6 e6
  subst e6
  have hrow : ∀ k, k < 2381 → (k < 161 + 11 * ix (S.hs (S.c - 1) 4) ∨ 2361 ≤ k) → rowB (upI I5 t 5 (nI (S.c - 1))) (t + 1) k = rowB I (pastA t (I (t + 715) (S.c - 1))) k := fun k k1 k2 => by
    rw [rowB_cg (I := I5) (fun a ha hb => upI_f (by omega)) k1]
    exact f2 k k1 k2
  have ho : ∀ a, a ≠ t → (a < t + 1 ∨ t + 1 + 238 ≤ a) → upI I5 t 5 (nI (S.c - 1)) a = I a := fun a ha hb => by rw [upI_f ha]; exact f1 a hb
  have e5' : upI I5 t 5 (nI (S.c - 1)) t 5 = nI (S.c - 1) := upI_s
  have e3' : upI I5 t 5 (nI (S.c - 1)) t 3 = S.kp := by rw [upI_k (by omega), f1 t (by omega)]; exact h3
  generalize upI I5 t 5 (nI (S.c - 1)) = Y at *
  have e715 : Y (t + 715) = I (t + 715) := ho _ (by omega) (by omega)
  refine h _ _ ⟨g1, ?_, e3', h4, fun z => (h5 z).fr (fun a ha hb => ho a (by omega) (by omega)), ⟨by show S.c - 1 ≤ 4; omega, e5'⟩, by rw [e715]; exact h8, by rw [e715]; exact h9, fun j hj => ?_, h11, by rw [ho _ (by omega) (by omega)]; exact h12, fun i hi => by rw [ho _ (by omega) (by omega)]; exact h13 i hi⟩
  · exact hrel.cg (fun k k1 k2 => hrow k k1 k2) (fun _ _ => rfl)
  · have hj' : j < S.c - 1 := hj
    rw [e715]
    have hgj := h8 j (by omega)
    have hPj : pastA t (I (t + 715) j) = t + 729 + 238 * ix (I (t + 715) j) := rfl
    exact (h10 j (by omega)).fr (fun a ha hb => ho a (by omega) (by omega))
/-- so many ticks pass -/
theorem k_pass {n : Nat} (hC : CT K R t I S) (h0 : ∃ b, b ≤ 9000 ∧ S.σ 0 = nI b) (h1 : 1 ≤ n) (h99 : n ≤ 99) (h : ∀ I', CT K R t I' (S.rec'.wσ (tkN S.σ n)) → Q (nI (mvN S.σ n)) I') : w_X6_pass K R t (nI n) I Q := by
  have hT := hC.1
  have hS := hC.2.1.1
  obtain ⟨b, hb, eb⟩ := h0
  have e6 : I (t + 1) 6 = nI b := by rw [← eb]; exact hC.rd so_tk (by omega) (by omega) (by omega) (by omega)
  unfold w_X6_pass
  refine c_in1 ⟨(nI_leI (a := 1) (by omega) (by omega)).mpr h1, (nI_leI (b := 99) (by omega) (by omega)).mpr h99⟩ ⟨fun _ => ⟨hT, fun c2 => ?_, fun c2 => absurd ?_ c2⟩, fun z => absurd z z10⟩
  · refine c_record hC (fun I3 hC3 f3 => ?_)
    unfold w_X6_pass_b39
    intro X hX
    have key : ∀ d k, k + d = n → ∀ I', CT K R t I' (S.rec'.wσ (tkN S.σ k)) → X (nI (mvN S.σ k)) (nI k) I' := by
      intro d
      induction d with
      | zero =>
        intro k hk I' hC'
        refine hX _ _ _ ?_
        have : k = n := by omega
        subst this
        unfold w_X6_pass_b39_body
        exact ⟨fun _ => h I' hC', fun z => absurd (Int32.le_refl _) z⟩
      | succ d ih =>
        intro k hk I' hC'
        refine hX _ _ _ ?_
        have hle : ¬ nI n ≤ nI k := fun z => by have := (nI_leI (by omega) (by omega)).mp z; omega
        have ih1 := ih (k + 1) (by omega)
        unfold mvN at ih1
        unfold w_X6_pass_b39_body w_X6_pass_b59
        refine ⟨fun z => absurd z hle, fun _ => ⟨hT, c_tickT hC' (fun I5 h5 f5 => ⟨fun z => ?_, fun z => ?_⟩)⟩⟩
        · rw [if_pos (show tickQ (tkN S.σ k) = -5 from z)] at ih1
          rw [nr_1]
          exact ih1 I5 h5
        · rw [if_neg (show ¬ tickQ (tkN S.σ k) = -5 from z)] at ih1
          rw [nr_1, nr_1]
          exact ih1 I5 h5
    exact key n 0 (by omega) I3 (by have := hC3.wid; rw [rec_σ] at this; exact this)
  · rw [e6, nI_add]
    exact (nI_leI (b := 9999) (by omega) (by omega)).mpr (by omega)
theorem rec_c (S : St) (h : S.c ≤ 4) : 1 ≤ S.rec'.c ∧ S.rec'.hs (S.rec'.c - 1) = S.σ := by
  unfold St.rec'
  split
  · refine ⟨by show 1 ≤ S.c + 1; omega, ?_⟩
    show (if S.c + 1 - 1 = S.c then S.σ else S.hs (S.c + 1 - 1)) = S.σ
    rw [if_pos (by omega)]
  · refine ⟨by show 1 ≤ 3 + 1; omega, ?_⟩
    show (if 3 + 1 - 1 = 3 then S.σ else S.hs (3 + 1 - 1 + 1)) = S.σ
    rw [if_pos (by omega)]
end KG
