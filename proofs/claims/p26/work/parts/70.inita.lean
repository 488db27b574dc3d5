/-! THE CONSTRUCTORS: what stands behind them -/
theorem upK_s (K : MK) (a : Nat) (t : Tg) : upK K a t a = some t := by simp [upK]
theorem upK_o {K : MK} {a b : Nat} {t : Tg} (h : b ≠ a) : upK K a t b = K b := by simp [upK, h]
theorem clR_s (R : MR) (a : Nat) : clR R a a = fun _ _ => none := by simp [clR]
theorem clR_o {R : MR} {a b : Nat} (h : b ≠ a) : clR R a b = R b := by simp [clR, h]
theorem clI_s (I : MI) (a : Nat) : clI I a a = fun _ => 0 := by simp [clI]
theorem clI_o {I : MI} {a b : Nat} (h : b ≠ a) : clI I a b = I b := by simp [clI, h]
theorem upR_f {R : MR} {a k b v : Nat} (h : b ≠ a) : upR R a k v b = R b := upR_ne R k v h
theorem upR_s {R : MR} {a k v : Nat} : upR R a k v a k = fun _ => some v := by simp [upR]
theorem upR_k {R : MR} {a k j v : Nat} (h : j ≠ k) : upR R a k v a j = R a j := by simp [upR, h]
/-- below an address nothing has changed -/
def Blw (a : Nat) (K : MK) (R : MR) (I : MI) (K' : MK) (R' : MR) (I' : MI) : Prop := ∀ b, b < a → K' b = K b ∧ R' b = R b ∧ I' b = I b
theorem Blw.rf {a : Nat} {K : MK} {R : MR} {I : MI} : Blw a K R I K R I := fun _ _ => ⟨rfl, rfl, rfl⟩
theorem Blw.trans {a a' : Nat} {K K1 K2 : MK} {R R1 R2 : MR} {I I1 I2 : MI} (h : Blw a K R I K1 R1 I1) (h2 : Blw a' K1 R1 I1 K2 R2 I2) (ha : a ≤ a') : Blw a K R I K2 R2 I2 := fun b hb => by
  obtain ⟨x1, x2, x3⟩ := h b hb
  obtain ⟨y1, y2, y3⟩ := h2 b (by omega)
  exact ⟨y1.trans x1, y2.trans x2, y3.trans x3⟩
theorem Blw.new {a : Nat} {K : MK} {R : MR} {I : MI} (t : Tg) : Blw a K R I (upK K a t) (clR R a) (clI I a) := fun b hb => ⟨upK_o (by omega), clR_o (by omega), clI_o (by omega)⟩
/-- the numbers of a new bus -/
def iB0 (o k : Nat) : Int32 :=
  if o = 0 then (if k = 7 then -5 else 0)
  else if o = 1 then (if k = 0 then 4 else if k = 2 then 12 else 0)
  else if o = 2 then (if k < 8 then -5 else 0)
  else if o < 6 then 0
  else if o < 18 then (if (o - 6) % 3 = 0 then (if k = 1 then 2 else if k = 7 then -5 else 0) else 0)
  else if o < 38 then (if (o - 18) % 5 = 2 then (if k = 0 then 2 else if k = 1 then 3 else 0) else 0)
  else 0
theorem c_X3 {a : Nat} {K : MK} {R : MR} {I : MI} {n : Nat} {Q : MK → MR → MI → Nat → Prop} (hQ : Q K R I n) : w_X3_init a K R I n Q := by
  unfold w_X3_init
  exact ⟨by decide, by decide, hQ⟩
theorem c_X1 {a : Nat} {K : MK} {R : MR} {I : MI} {Q : MK → MR → MI → Nat → Prop} (hK : K a = some (.inr 1)) (hI : I a = fun _ => 0) (hQ : ∀ K' R' I', Blw a K R I K' R' I' → IsLine K' R' a → I' a = (fun _ => 0) → I' (a + 1) = (fun _ => 0) → Q K' R' I' (a + 2)) : w_X1_init a K R I (a + 1) Q := by
  unfold w_X1_init
  refine ⟨by decide, by decide, ?_⟩
  rintro K1 rfl R2 rfl I3 rfl
  refine ⟨by rw [upK_o (by omega)]; exact hK, ?_⟩
  rintro R7 rfl
  refine ⟨by decide, by decide, hQ _ _ _ (fun b hb => ⟨upK_o (by omega), by rw [upR_f (by omega), clR_o (by omega)], clI_o (by omega)⟩) ⟨?_, fun g => ?_, ?_⟩ ?_ ?_⟩
  · rw [upK_o (by omega)]; exact hK
  · rw [upR_s]
  · rw [upK_s]
  · rw [clI_o (by omega)]; exact hI
  · rw [clI_s]
theorem c_X2 {a : Nat} {K : MK} {R : MR} {I : MI} {Q : MK → MR → MI → Nat → Prop} (hK : K a = some (.inr 2)) (hI : I a = fun _ => 0) (hQ : ∀ K' R' I', Blw a K R I K' R' I' → IsMaster K' R' a → I' a = (fun k => if k = 1 then 2 else if k = 7 then -5 else 0) → I' (a + 1) = (fun _ => 0) → I' (a + 2) = (fun _ => 0) → Q K' R' I' (a + 3)) : w_X2_init a K R I (a + 1) Q := by
  unfold w_X2_init
  refine ⟨by decide, by decide, ?_⟩
  rintro K1 rfl R2 rfl I3 rfl
  refine ⟨by decide, by decide, c_X1 (upK_s _ _ _) (clI_s _ _) (fun K6 R7 I8 hb hl h1 h2 => ?_)⟩
  obtain ⟨b1, b2, b3⟩ := hb a (by omega)
  have k1 : K6 a = some (.inr 2) := by rw [b1, upK_o (by omega)]; exact hK
  have i1 : I8 a = fun _ => 0 := by rw [b3, clI_o (by omega)]; exact hI
  refine ⟨k1, ?_⟩
  rintro R13 rfl I14 rfl I15 rfl
  refine ⟨by decide, by decide, hQ _ _ _ (fun b hb' => ?_) ⟨k1, fun g => by rw [upR_s], hl.1, fun g => by rw [upR_f (by omega)]; exact hl.2.1 g, hl.2.2⟩ ?_ ?_ ?_⟩
  · obtain ⟨c1, c2, c3⟩ := hb b (by omega)
    exact ⟨by rw [c1, upK_o (by omega)], by rw [upR_f (by omega), c2, clR_o (by omega)], by rw [upI_f (by omega), upI_f (by omega), c3, clI_o (by omega)]⟩
  · funext k
    rw [upI_at, upI_at, i1]
    by_cases e7 : k = 7
    · subst e7; simp
    · by_cases e1 : k = 1 <;> simp [e7, e1]
  · rw [upI_f (by omega), upI_f (by omega)]; exact h1
  · rw [upI_f (by omega), upI_f (by omega)]; exact h2
theorem c_X5 {a : Nat} {K : MK} {R : MR} {I : MI} {Q : MK → MR → MI → Nat → Prop} (hK : K a = some (.inr 5)) (hI : I a = fun _ => 0) (hQ : ∀ K' R' I', Blw a K R I K' R' I' → IsTarget K' R' a → I' a = (fun _ => 0) → I' (a + 1) = (fun _ => 0) → I' (a + 2) = (fun k => if k = 0 then 2 else if k = 1 then 3 else 0) → I' (a + 3) = (fun _ => 0) → I' (a + 4) = (fun _ => 0) → Q K' R' I' (a + 5)) : w_X5_init a K R I (a + 1) Q := by
  unfold w_X5_init
  refine ⟨by decide, by decide, ?_⟩
  rintro K1 rfl R2 rfl I3 rfl
  refine ⟨by rw [upK_o (by omega)]; exact hK, ?_⟩
  rintro R7 rfl
  refine ⟨by decide, by decide, ?_⟩
  rintro K8 rfl R9 rfl I10 rfl
  refine ⟨upK_s _ _ _, ?_⟩
  rintro I14 rfl I15 rfl I16 rfl
  refine ⟨by rw [upK_o (by omega), upK_o (by omega)]; exact hK, ?_⟩
  rintro R18 rfl
  refine ⟨by decide, by decide, ?_⟩
  rintro K19 rfl R20 rfl I21 rfl
  refine ⟨by decide, by decide, c_X1 (upK_s _ _ _) (clI_s _ _) (fun K6 R7 I8 hb hl h1 h2 => ?_)⟩
  obtain ⟨b1, b2, b3⟩ := hb a (by omega)
  obtain ⟨d1, d2, d3⟩ := hb (a + 1) (by omega)
  obtain ⟨e1, e2, e3⟩ := hb (a + 1 + 1) (by omega)
  have k1 : K6 a = some (.inr 5) := by
    rw [b1, upK_o (by omega), upK_o (by omega), upK_o (by omega)]; exact hK
  refine ⟨k1, ?_⟩
  rintro R31 rfl
  refine ⟨by decide, by decide, hQ _ _ _ (fun b hb' => ?_) ⟨k1, fun g => ?_, ?_, fun g => ?_, ?_, fun g => ?_, hl.1, fun g => ?_, hl.2.2⟩ ?_ ?_ ?_ ?_ ?_⟩
  · obtain ⟨c1, c2, c3⟩ := hb b (by omega)
    exact ⟨by rw [c1, upK_o (by omega), upK_o (by omega), upK_o (by omega)], by rw [upR_f (by omega), c2, clR_o (by omega), upR_f (by omega), clR_o (by omega), upR_f (by omega), clR_o (by omega)], by rw [c3, clI_o (by omega), upI_f (by omega), upI_f (by omega), upI_f (by omega), clI_o (by omega), clI_o (by omega)]⟩
  · rw [upR_k (by omega), b2, clR_o (by omega), upR_k (by omega), clR_o (by omega), upR_s]
  · rw [d1, upK_o (by omega), upK_o (by omega), upK_s]
  · rw [upR_k (by omega), b2, clR_o (by omega), upR_s]
  · rw [e1, upK_o (by omega), upK_s]
  · rw [upR_s]
  · rw [upR_f (by omega)]; exact hl.2.1 g
  · rw [b3, clI_o (by omega), upI_f (by omega), upI_f (by omega), upI_f (by omega), clI_o (by omega), clI_o (by omega)]; exact hI
  · rw [d3, clI_o (by omega), upI_f (by omega), upI_f (by omega), upI_f (by omega), clI_o (by omega), clI_s]
  · have e3 : I8 (a + 2) = _ := e3
    rw [e3, clI_o (by omega)]
    funext k
    rw [upI_at, upI_at, upI_at, clI_s]
    by_cases c2 : k = 2
    · subst c2; simp
    · by_cases c1 : k = 1
      · subst c1; simp
      · by_cases c0 : k = 0 <;> simp [c0, c1, c2]
  · exact h1
  · exact h2
theorem IsQ.cg {K K' : MK} {R R' : MR} {a : Nat} (h : IsQ K R a) (hf : ∀ b, a ≤ b → b < a + 1 → K' b = K b ∧ R' b = R b) : IsQ K' R' a := by
  unfold IsQ at h ⊢
  rw [(hf a (by omega) (by omega)).1]; exact h
theorem IsLine.cg {K K' : MK} {R R' : MR} {a : Nat} (h : IsLine K R a) (hf : ∀ b, a ≤ b → b < a + 2 → K' b = K b ∧ R' b = R b) : IsLine K' R' a := by
  obtain ⟨h1, h2, h3⟩ := h
  exact ⟨by rw [(hf a (by omega) (by omega)).1]; exact h1, by rw [(hf a (by omega) (by omega)).2]; exact h2, by rw [(hf _ (by omega) (by omega)).1]; exact h3⟩
theorem IsMaster.cg {K K' : MK} {R R' : MR} {a : Nat} (h : IsMaster K R a) (hf : ∀ b, a ≤ b → b < a + 3 → K' b = K b ∧ R' b = R b) : IsMaster K' R' a := by
  obtain ⟨h1, h2, h3⟩ := h
  exact ⟨by rw [(hf a (by omega) (by omega)).1]; exact h1, by rw [(hf a (by omega) (by omega)).2]; exact h2, h3.cg (fun b x y => hf b (by omega) (by omega))⟩
theorem IsTarget.cg {K K' : MK} {R R' : MR} {a : Nat} (h : IsTarget K R a) (hf : ∀ b, a ≤ b → b < a + 5 → K' b = K b ∧ R' b = R b) : IsTarget K' R' a := by
  obtain ⟨h1, h2, h3, h4, h5, h6, h7⟩ := h
  have ea := (hf a (by omega) (by omega)).2
  exact ⟨by rw [(hf a (by omega) (by omega)).1]; exact h1, by rw [ea]; exact h2, by rw [(hf _ (by omega) (by omega)).1]; exact h3, by rw [ea]; exact h4, by rw [(hf _ (by omega) (by omega)).1]; exact h5, by rw [ea]; exact h6, h7.cg (fun b x y => hf b (by omega) (by omega))⟩
theorem IsText.cg {K K' : MK} {R R' : MR} {a : Nat} (h : IsText K R a) (hf : ∀ b, a ≤ b → b < a + 13 → K' b = K b ∧ R' b = R b) : IsText K' R' a := by
  obtain ⟨h1, h2, h3, h4, h5, h6⟩ := h
  have ea := (hf a (by omega) (by omega)).2
  exact ⟨by rw [(hf a (by omega) (by omega)).1]; exact h1, by rw [ea]; exact h2, by rw [(hf _ (by omega) (by omega)).1]; exact h3, by rw [ea]; exact h4, by rw [(hf _ (by omega) (by omega)).1]; exact h5, fun i hi => ⟨by rw [(hf _ (by omega) (by omega)).2]; exact (h6 i hi).1, (h6 i hi).2.cg (fun b x y => hf b (by omega) (by omega))⟩⟩
theorem IsBus.cg {K K' : MK} {R R' : MR} {a : Nat} (h : IsBus K R a) (hf : ∀ b, a ≤ b → b < a + 238 → K' b = K b ∧ R' b = R b) : IsBus K' R' a := by
  obtain ⟨h1, h2, h3, h4, h5, h6, h7, h8, h9, h10, h11, h12, h13, h14⟩ := h
  have ea := (hf a (by omega) (by omega)).2
  refine ⟨by rw [(hf a (by omega) (by omega)).1]; exact h1, by rw [ea]; exact h2, by rw [(hf _ (by omega) (by omega)).1]; exact h3, by rw [ea]; exact h4, by rw [(hf _ (by omega) (by omega)).1]; exact h5, by rw [ea]; exact h6, by rw [(hf _ (by omega) (by omega)).1]; exact h7, by rw [ea]; exact h8, by rw [(hf _ (by omega) (by omega)).1]; exact h9, by rw [ea]; exact h10, by rw [(hf _ (by omega) (by omega)).1]; exact h11, fun i hi => ⟨?_, (h12 i hi).2.cg (fun b x y => hf b (by omega) (by omega))⟩, fun i hi => ⟨?_, (h13 i hi).2.cg (fun b x y => hf b (by omega) (by omega))⟩, fun i hi => ⟨?_, (h14 i hi).2.cg (fun b x y => hf b (by omega) (by omega))⟩⟩
  · rw [(hf _ (by omega) (by omega)).2]; exact (h12 i hi).1
  · rw [(hf _ (by omega) (by omega)).2]; exact (h13 i hi).1
  · rw [(hf _ (by omega) (by omega)).2]; exact (h14 i hi).1
