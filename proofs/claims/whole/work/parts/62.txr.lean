/-! THE REFERENCE READS THE TEXT -/
def mR (I : MI) (r : Nat) (p w : Int32) : MI := upI (upI I r 8 p) r 9 w
def chr (len : Nat) (tx : Nat → Int32) (p : Nat) : Int32 := if p < len then tx p else 0
def TXR (I : MI) (r len : Nat) (tx : Nat → Int32) : Prop := len ≤ 60 ∧ I r 7 = nI len ∧ ∀ i, i < len → I (r + 5) i = tx i
section TXRS
variable {K : MK} {R : MR} {I J : MI} {r len : Nat} {tx : Nat → Int32} {p w : Int32}
theorem mR_8 : mR I r p w r 8 = p := by unfold mR; rw [upI_k (by omega), upI_s]
theorem mR_9 : mR I r p w r 9 = w := by unfold mR; rw [upI_s]
theorem mR_k {k : Nat} (h : k ≠ 8 ∧ k ≠ 9) : mR I r p w r k = I r k := by unfold mR; rw [upI_k (by omega), upI_k (by omega)]
theorem mR_o {c : Nat} (h : c ≠ r) : mR I r p w c = I c := by unfold mR; rw [upI_f h, upI_f h]
theorem upI_cm {a k b j : Nat} {x y : Int32} (h : a ≠ b ∨ k ≠ j) : upI (upI I a k x) b j y = upI (upI I b j y) a k x := by
  funext c i
  simp only [upI]
  by_cases h1 : c = b ∧ i = j
  · rw [if_pos h1, if_neg (by omega), if_pos h1]
  · rw [if_neg h1, if_neg h1]
theorem mR_u8 {x : Int32} : upI (mR I r p w) r 8 x = mR I r x w := by
  unfold mR
  rw [upI_cm (by omega), upI_upI]
theorem mR_u9 {x : Int32} : upI (mR I r p w) r 9 x = mR I r p x := by
  unfold mR
  rw [upI_upI]
theorem mR_uo {a k : Nat} {x : Int32} (h : a ≠ r ∨ (k ≠ 8 ∧ k ≠ 9)) : upI (mR I r p w) a k x = mR (upI I a k x) r p w := by
  unfold mR
  rw [upI_cm (by omega), upI_cm (I := I) (by omega)]
theorem TXR.mR (h : TXR I r len tx) : TXR (mR I r p w) r len tx := ⟨h.1, by rw [mR_k (by omega)]; exact h.2.1, fun i hi => by rw [mR_o (by omega)]; exact h.2.2 i hi⟩
theorem r_sign67 {Q : Int32 → MI → Prop} {x1 x2 y z0 z1 : Int32} (hM : IsModel K R r) (h : Q y (upI I r 8 (z1 + z0))) : w_X7_sign_b67 K R r x1 x2 Q y z0 z1 I := by
  unfold w_X7_sign_b67
  exact ⟨hM, fun I2 e => by subst e; exact h⟩
theorem r_sign47 {Q : Int32 → MI → Prop} {x1 x2 y : Int32} {n : Nat} (hM : IsModel K R r) {w : Int32} (z : Int32) (hz : z = 0 ∨ z = 1) (h0 : z = 0 → Q y (mR I r (nI (n + 1)) 0)) (h1 : z = 1 → Q y (mR I r (nI n) 1)) : w_X7_sign_b47 K R r x1 x2 Q y z (mR I r (nI n) w) := by
  unfold w_X7_sign_b47
  refine ⟨hM, hz, fun I4 e => ?_⟩
  rw [mR_u9] at e
  subst e
  rw [mR_9, mR_8]
  refine ⟨fun c => r_sign67 hM ?_, fun c => r_sign67 hM ?_⟩
  · rw [mR_u8, nr_1, c]
    exact h0 c
  · rcases hz with e | e
    · exact absurd e c
    · rw [mR_u8, i32_add0, e]
      exact h1 e
theorem r_sign0 {Q : Int32 → MI → Prop} {lo hi : Int32} {n : Nat} (hM : IsModel K R r) (hT : TXR I r len tx) (hn : n ≤ 60) (hok : lo ≤ chr len tx n ∧ chr len tx n ≤ hi → Q (chr len tx n) (mR I r (nI (n + 1)) 0)) (hno : ¬ (lo ≤ chr len tx n ∧ chr len tx n ≤ hi) → Q (chr len tx n) (mR I r (nI n) 1)) : w_X7_sign K R r lo hi (mR I r (nI n) 0) Q := by
  have b24 : w_X7_sign_b24 K R r lo hi Q (chr len tx n) (mR I r (nI n) 0) := by
    unfold w_X7_sign_b24 w_X7_sign_b42
    rw [mR_9]
    refine ⟨hM, fun c => absurd rfl c, fun _ => ?_⟩
    by_cases c : lo ≤ chr len tx n ∧ chr len tx n ≤ hi
    · exact r_in1 c ⟨fun _ => r_sign47 hM 0 (Or.inl rfl) (fun _ => hok c) (fun z => absurd z (by decide)), fun z => absurd z z10⟩
    · exact r_in0 c ⟨fun z => absurd rfl z, fun _ => r_sign47 hM 1 (Or.inr rfl) (fun z => absurd z (by decide)) (fun _ => hno c)⟩
  obtain ⟨h60, h7, h5⟩ := hT
  unfold w_X7_sign
  rw [mR_k (by omega), mR_8, h7]
  refine ⟨hM, fun c => ?_, fun c => ?_⟩
  · have := (nI_leI (by omega) (by omega)).mp c
    unfold chr at b24
    rw [if_neg (by omega)] at b24
    exact b24
  · have hl : n < len := by
      rcases Nat.lt_or_ge n len with q | q
      · exact q
      · exact absurd ((nI_leI (by omega) (by omega)).mpr q) c
    refine ⟨vp_in_nI (by omega) (by decide), ?_⟩
    rw [ix_nI (by omega), mR_o (by omega), h5 n hl]
    unfold chr at b24
    rw [if_pos hl] at b24
    exact b24
theorem r_sign1 {Q : Int32 → MI → Prop} {lo hi : Int32} {n : Nat} (hM : IsModel K R r) (hT : TXR I r len tx) (hn : n ≤ 60) (h : ∀ y, Q y (mR I r (nI n) 1)) : w_X7_sign K R r lo hi (mR I r (nI n) 1) Q := by
  have b24 : ∀ y, w_X7_sign_b24 K R r lo hi Q y (mR I r (nI n) 1) := by
    intro y
    unfold w_X7_sign_b24 w_X7_sign_b42
    rw [mR_9]
    exact ⟨hM, fun _ => r_sign47 hM 1 (Or.inr rfl) (fun z => absurd z (by decide)) (fun _ => h y), fun z => absurd z z10⟩
  obtain ⟨h60, h7, h5⟩ := hT
  unfold w_X7_sign
  rw [mR_k (by omega), mR_8, h7]
  refine ⟨hM, fun _ => b24 _, fun c => ⟨?_, b24 _⟩⟩
  have hl : n < len := by
    rcases Nat.lt_or_ge n len with q | q
    · exact q
    · exact absurd ((nI_leI (by omega) (by omega)).mpr q) c
  exact vp_in_nI (by omega) (by decide)
theorem chr_dig {n : Nat} : (48 ≤ chr len tx n ∧ chr len tx n ≤ 57) ↔ ∃ d, dig len tx n = some d := by
  unfold chr dig
  by_cases c : n < len
  · rw [if_pos c]
    by_cases h : 48 ≤ tx n ∧ tx n ≤ 57
    · rw [if_pos ⟨c, h⟩]
      exact ⟨fun _ => ⟨_, rfl⟩, fun _ => h⟩
    · rw [if_neg (fun z => h z.2)]
      exact ⟨fun z => absurd z h, fun ⟨d, z⟩ => by cases z⟩
  · rw [if_neg c, if_neg (fun z => c z.1)]
    exact ⟨fun z => absurd z.1 (by decide), fun ⟨d, z⟩ => by cases z⟩
theorem chr_lit {n c : Nat} (hc : c < 2 ^ 31) (h1 : 1 ≤ c) : (nI c ≤ chr len tx n ∧ chr len tx n ≤ nI c) ↔ lit len tx c n = true := by
  rw [lit_iff]
  unfold chr
  by_cases h : n < len
  · rw [if_pos h]
    exact ⟨fun z => ⟨h, Int32.le_antisymm z.2 z.1⟩, fun z => by rw [z.2]; exact ⟨Int32.le_refl _, Int32.le_refl _⟩⟩
  · rw [if_neg h]
    refine ⟨fun z => ?_, fun z => absurd z.1 h⟩
    have := (nI_leI (b := 0) hc (by omega)).mp z.1
    omega
theorem chr_some {n d : Nat} (h : dig len tx n = some d) : chr len tx n = nI (48 + d) := by
  obtain ⟨a, -, e, -⟩ := dig_some h
  unfold chr
  rw [if_pos a, e]
theorem r_number0 {Q : Int32 → MI → Prop} {most n : Nat} (hM : IsModel K R r) (hT : TXR I r len tx) (hn : n ≤ 60) (hm : most < 100) (hm9 : 9 ≤ most) (h0 : num len tx most n = none → ∀ y, Q y (mR I r (nI n) 1)) (h1 : ∀ v p', num len tx most n = some (v, p') → Q (nI v) (mR I r (nI p') 0)) : w_X7_number K R r (nI most) (mR I r (nI n) 0) Q := by
  obtain ⟨h60, h7, h5⟩ := hT
  have hT : TXR I r len tx := ⟨h60, h7, h5⟩
  unfold w_X7_number w_X7_number_b78 w_X7_number_b79 w_X7_number_b104
  refine ⟨hM, r_sign0 hM hT hn (fun c => ?_) (fun c => ?_)⟩
  · obtain ⟨d, hd⟩ := chr_dig.mp c
    obtain ⟨d1, d9, dt, de⟩ := dig_some hd
    have ed : chr len tx n - 48 = nI d := by
      rw [chr_some hd]
      have := pk_sub (a := 48 + d) (b := 48) (by omega)
      rw [show (48 + d) - 48 = d by omega] at this
      exact this
    have hmd : ¬ most < d := by omega
    have e0 : (nI d ≤ (0 : Int32)) = (d ≤ 0) := lr_0 (by omega)
    rw [ed, mR_9, mR_8, mR_k (by omega), h7, e0]
    have hnum : num len tx most n = (match dig len tx (n + 1) with
      | none => some (d, n + 1)
      | some e => if d = 0 ∨ most < d * 10 + e then some (d, n + 1) else some (d * 10 + e, n + 2)) := by
      conv => lhs; unfold num
      rw [hd]
      simp only [if_neg hmd]
      rfl
    have k1 : num len tx most n = some (d, n + 1) → Q (nI d) (mR I r (nI (n + 1)) 0) := fun e => h1 _ _ e
    refine ⟨fun z => absurd rfl z, fun _ => ⟨fun z => ⟨fun _ => k1 ?_, fun q => absurd rfl q⟩, fun z => ⟨fun c2 => ⟨fun _ => k1 ?_, fun q => absurd rfl q⟩, fun c2 => ?_⟩⟩⟩
    · rw [hnum]
      cases he : dig len tx (n + 1) with
      | none => rfl
      | some e => simp only [if_pos (show d = 0 ∨ most < d * 10 + e from Or.inl (by omega))]
    · have := (nI_leI (by omega) (by omega)).mp c2
      rw [hnum]
      have : dig len tx (n + 1) = none := by unfold dig; rw [if_neg (by omega)]
      rw [this]
    · have hl : n + 1 < len := by
        rcases Nat.lt_or_ge (n + 1) len with q | q
        · exact q
        · exact absurd ((nI_leI (by omega) (by omega)).mpr q) c2
      have ech : chr len tx (n + 1) = tx (n + 1) := by unfold chr; rw [if_pos hl]
      refine ⟨vp_in_nI (by omega) (by decide), ?_⟩
      rw [ix_nI (by omega), mR_o (by omega), h5 _ hl, ← ech]
      by_cases c3 : (48 : Int32) ≤ chr len tx (n + 1) ∧ chr len tx (n + 1) ≤ 57
      · obtain ⟨e, he⟩ := chr_dig.mp c3
        obtain ⟨-, e9, -, -⟩ := dig_some he
        refine r_in1 c3 ⟨fun z => absurd z z10, fun _ => ?_⟩
        rw [mR_8, mR_o (by omega), ix_nI (by omega), h5 _ hl, ← ech, chr_some he]
        have ev : (10 : Int32) * nI d + nI (48 + e) - 48 = nI (d * 10 + e) := by
          rw [show (10 : Int32) = nI 10 from rfl, pk_mul, nI_add]
          have := pk_sub (a := 10 * d + (48 + e)) (b := 48) (by omega)
          rw [show 10 * d + (48 + e) - 48 = d * 10 + e by omega] at this
          exact this
        rw [ev]
        rw [he] at hnum
        refine ⟨vp_in_nI (by omega) (by decide), fun c4 => ⟨fun _ => k1 ?_, fun q => absurd rfl q⟩, fun c4 => ⟨fun z => absurd z z10, fun _ => ⟨hM, r_sign0 hM hT (by omega) (fun _ => ?_) (fun q => absurd c3 q)⟩⟩⟩
        · have := (nI_ltI (by omega) (by omega)).mp c4
          rw [hnum]
          simp only [if_pos (show d = 0 ∨ most < d * 10 + e from Or.inr this)]
        · rw [chr_some he, ev]
          refine h1 _ _ ?_
          rw [hnum]
          have : ¬ most < d * 10 + e := fun q => c4 ((nI_ltI (by omega) (by omega)).mpr q)
          simp only [if_neg (show ¬ (d = 0 ∨ most < d * 10 + e) by omega)]
      · refine r_in0 c3 ⟨fun _ => ⟨fun _ => k1 ?_, fun q => absurd rfl q⟩, fun z => absurd rfl z⟩
        rw [hnum]
        have : dig len tx (n + 1) = none := by
          cases he : dig len tx (n + 1) with
          | none => rfl
          | some e => exact absurd (chr_dig.mpr ⟨e, he⟩) c3
        rw [this]
  · have hno : num len tx most n = none := by
      unfold num
      cases he : dig len tx n with
      | none => rfl
      | some e => exact absurd (chr_dig.mpr ⟨e, he⟩) c
    rw [mR_9]
    exact ⟨fun _ => ⟨fun _ => h0 hno _, fun q => absurd rfl q⟩, fun z => absurd z z10⟩
theorem r_number1 {Q : Int32 → MI → Prop} {most n : Nat} (hM : IsModel K R r) (hT : TXR I r len tx) (hn : n ≤ 60) (h0 : ∀ y, Q y (mR I r (nI n) 1)) : w_X7_number K R r (nI most) (mR I r (nI n) 1) Q := by
  unfold w_X7_number w_X7_number_b78 w_X7_number_b79 w_X7_number_b104
  refine ⟨hM, r_sign1 hM hT hn (fun y => ?_)⟩
  rw [mR_9]
  exact ⟨fun _ => ⟨fun _ => h0 _, fun q => absurd rfl q⟩, fun z => absurd z z10⟩
end TXRS
