/-! THE TEXT: what both readings of it make -/
def dig (len : Nat) (tx : Nat → Int32) (p : Nat) : Option Nat := if p < len ∧ 48 ≤ tx p ∧ tx p ≤ 57 then some (ix (tx p - 48)) else none
def num (len : Nat) (tx : Nat → Int32) (most p : Nat) : Option (Nat × Nat) := match dig len tx p with
  | none => none
  | some d => if most < d then none else (match dig len tx (p + 1) with
    | none => some (d, p + 1)
    | some e => if d = 0 ∨ most < d * 10 + e then some (d, p + 1) else some (d * 10 + e, p + 2))
def lit (len : Nat) (tx : Nat → Int32) (c p : Nat) : Bool := decide (p < len) && (tx p == nI c)
theorem lit_iff {len : Nat} {tx : Nat → Int32} {c p : Nat} : lit len tx c p = true ↔ p < len ∧ tx p = nI c := by
  unfold lit
  simp
/-- a question: where its fault is, or what it says and where it ends -/
def pq (len : Nat) (tx : Nat → Int32) (p : Nat) : Nat ⊕ (Nat × Nat × Nat × Int32 × Nat) := match num len tx 3 p with
  | none => .inl p
  | some (m, p1) => if lit len tx 62 p1 then (match num len tx 3 (p1 + 1) with
    | none => .inl (p1 + 1)
    | some (t, p2) => if lit len tx 119 p2 then (match num len tx 15 (p2 + 1) with
      | none => .inl (p2 + 1)
      | some (a, p3) => if lit len tx 61 p3 then (match num len tx 99 (p3 + 1) with
        | none => .inl (p3 + 1)
        | some (v, p4) => .inr (m, t, a, nI v, p4)) else .inl p3) else if lit len tx 114 p2 then (match num len tx 15 (p2 + 1) with
      | none => .inl (p2 + 1)
      | some (a, p3) => .inr (m, t, a, -5, p3)) else .inl p2) else .inl p1
theorem dig_some {len : Nat} {tx : Nat → Int32} {p d : Nat} (h : dig len tx p = some d) : p < len ∧ d ≤ 9 ∧ tx p = nI (48 + d) ∧ tx p - 48 = nI d := by
  unfold dig at h
  split at h
  · rename_i hc
    obtain ⟨h1, h2, h3⟩ := hc
    obtain ⟨j, hj, e⟩ := le_nI (n := 57) (Int32.le_trans (show (0 : Int32) ≤ 48 by decide) h2) h3 (by decide)
    have hj48 : 48 ≤ j := by
      rw [e] at h2
      exact (nI_leI (a := 48) (by omega) (by omega)).mp h2
    have es : tx p - 48 = nI (j - 48) := by
      rw [e]
      exact pk_sub (a := j) (b := 48) hj48
    rw [es, ix_nI (by omega)] at h
    cases h
    exact ⟨h1, by omega, by rw [e]; congr 1; omega, es⟩
  · cases h
section TXC
variable {K : MK} {R : MR} {I J : MI} {a len : Nat} {tx : Nat → Int32}
/-- the text of the class in a memory -/
def TX (I : MI) (a len : Nat) (tx : Nat → Int32) : Prop := len ≤ 60 ∧ I a 1 = nI len ∧ ∀ i, i < len → I (a + 1) i = tx i
theorem TX.up {x : Int32} {k : Nat} (h : TX I a len tx) (hk : k ≠ 1) : TX (upI I a k x) a len tx := ⟨h.1, by rw [upI_k (by omega)]; exact h.2.1, fun i hi => by rw [upI_f (by omega)]; exact h.2.2 i hi⟩
theorem c_digit {Q : Int32 → MI → Prop} {p : Nat} (hX : IsText K R a) (hT : TX I a len tx) (hp : p < 100) (h : Q (oI (dig len tx p)) I) : w_X4_digitAt K R a (nI p) I Q := by
  obtain ⟨h60, h1, h2⟩ := hT
  unfold w_X4_digitAt w_X4_digitAt_b17 w_X4_digitAt_b46 w_X4_digitAt_b48
  rw [h1]
  refine ⟨hX, fun c => ?_, fun c => ?_⟩
  · have hc := (nI_leI (by omega) (by omega)).mp c
    unfold dig at h
    rw [if_neg (by omega)] at h
    exact h
  · have hc : p < len := by
      rcases Nat.lt_or_ge p len with z | z
      · exact z
      · exact absurd ((nI_leI (by omega) (by omega)).mpr z) c
    refine c_idx1 (n := 60) (by omega) (by decide) ⟨fun _ => ⟨vp_in_nI (by omega) (by decide), ?_⟩, fun z => absurd z z10⟩
    rw [ix_nI (by omega), h2 p hc]
    refine ⟨fun c1 => ?_, fun c1 => ⟨fun c2 => ?_, fun c2 => ?_⟩⟩
    · unfold dig at h
      rw [if_neg (fun z => Int32.not_lt.mpr z.2.1 c1)] at h
      exact h
    · unfold dig at h
      rw [if_neg (fun z => Int32.not_lt.mpr z.2.2 c2)] at h
      exact h
    · have hd : dig len tx p = some (ix (tx p - 48)) := by unfold dig; rw [if_pos ⟨hc, Int32.not_lt.mp c1, Int32.not_lt.mp c2⟩]
      obtain ⟨-, -, -, e⟩ := dig_some hd
      rw [hd] at h
      show Q (tx p - 48) I
      rw [e]
      exact h
theorem c_number {Q : Int32 → MI → Prop} {most p : Nat} (hX : IsText K R a) (hT : TX I a len tx) (hm : most < 100) (hp : p < 90) (h0 : num len tx most p = none → Q (-5) (upI I a 4 (nI p))) (h1 : ∀ v p', num len tx most p = some (v, p') → Q (nI v) (upI I a 4 (nI p'))) : w_X4_readNumber K R a (nI most) (upI I a 4 (nI p)) Q := by
  unfold w_X4_readNumber w_X4_readNumber_b20 w_X4_readNumber_b62
  rw [upI_s]
  refine ⟨hX, c_digit hX (hT.up (by omega)) (by omega) ?_⟩
  cases hd : dig len tx p with
  | none => exact ⟨fun _ => h0 (by unfold num; rw [hd]), fun z => absurd rfl z⟩
  | some d =>
    obtain ⟨-, d9, -, -⟩ := dig_some hd
    refine ⟨fun z => absurd z (nI_ne5 (by omega)), fun _ => ⟨fun c => ?_, fun c => ?_⟩⟩
    · have hc := (nI_leI (by omega) (by omega)).mp c
      have hc' : ¬ most < d := by omega
      intro I4 e4
      rw [upI_upI, upI_s, nr_1] at e4
      subst e4
      rw [upI_s]
      refine c_digit hX (hT.up (by omega)) (by omega) ?_
      have e0 : (nI d = (0 : Int32)) = (d = 0) := el_0 (by omega)
      have k1 : num len tx most p = some (d, p + 1) → Q (nI d) (upI I a 4 (nI (p + 1))) := fun e => h1 _ _ e
      show (nI d = 0 → Q (nI d) (upI I a 4 (nI (p + 1)))) ∧ (¬ nI d = 0 → (oI (dig len tx (p + 1)) = -5 → Q (nI d) (upI I a 4 (nI (p + 1)))) ∧ (¬ oI (dig len tx (p + 1)) = -5 → (nI d * 10 + oI (dig len tx (p + 1)) ≤ nI most → ∀ I7, I7 = upI (upI I a 4 (nI (p + 1))) a 4 (upI I a 4 (nI (p + 1)) a 4 + 1) → Q (nI d * 10 + oI (dig len tx (p + 1))) I7) ∧ (¬ nI d * 10 + oI (dig len tx (p + 1)) ≤ nI most → Q (nI d) (upI I a 4 (nI (p + 1))))))
      cases he : dig len tx (p + 1) with
      | none =>
        have hn : num len tx most p = some (d, p + 1) := by
          unfold num
          rw [hd]
          simp only [if_neg hc', he]
        exact ⟨fun _ => k1 hn, fun _ => ⟨fun _ => k1 hn, fun z => absurd rfl z⟩⟩
      | some e =>
        obtain ⟨-, e9, -, -⟩ := dig_some he
        have em : nI d * 10 + nI e = nI (d * 10 + e) := by
          rw [show (10 : Int32) = nI 10 from rfl, pk_mul, nI_add]
        have hn : num len tx most p = if d = 0 ∨ most < d * 10 + e then some (d, p + 1) else some (d * 10 + e, p + 2) := by
          unfold num
          rw [hd]
          simp only [if_neg hc', he]
        rw [e0]
        simp only [oI]
        rw [em]
        refine ⟨fun z => k1 (by rw [hn, if_pos (Or.inl z)]), fun z => ⟨fun z2 => absurd z2 (nI_ne5 (by omega)), fun _ => ⟨fun c2 => ?_, fun c2 => k1 ?_⟩⟩⟩
        · have hc2 := (nI_leI (by omega) (by omega)).mp c2
          intro I7 e7
          rw [upI_upI, upI_s, nr_1] at e7
          subst e7
          exact h1 _ _ (by rw [hn, if_neg (by omega)])
        · rw [hn, if_pos (Or.inr ?_)]
          rcases Nat.lt_or_ge most (d * 10 + e) with q | q
          · exact q
          · exact absurd ((nI_leI (by omega) (by omega)).mpr q) c2
    · have hc : most < d := by
        rcases Nat.lt_or_ge most d with q | q
        · exact q
        · exact absurd ((nI_leI (by omega) (by omega)).mpr q) c
      refine h0 ?_
      unfold num
      rw [hd]
      simp only [if_pos hc]
theorem c_skip {Q : Int32 → MI → Prop} {c p : Nat} (hX : IsText K R a) (hT : TX I a len tx) (hp : p < 90) (h0 : ¬ lit len tx c p = true → Q 0 (upI I a 4 (nI p))) (h1 : lit len tx c p = true → Q 1 (upI I a 4 (nI (p + 1)))) : w_X4_skip K R a (nI c) (upI I a 4 (nI p)) Q := by
  have hT' := hT
  obtain ⟨h60, e1, e2⟩ := hT
  unfold w_X4_skip w_X4_skip_b36
  rw [upI_s, upI_k (by omega), e1]
  refine ⟨hX, fun z => h0 ?_, fun z => ?_⟩
  · have := (nI_leI (by omega) (by omega)).mp z
    rw [lit_iff]
    omega
  · have hpl : p < len := by
      rcases Nat.lt_or_ge p len with q | q
      · exact q
      · exact absurd ((nI_leI (by omega) (by omega)).mpr q) z
    refine c_idx1 (n := 60) (by omega) (by decide) ⟨fun z => absurd z z10, fun _ => ?_⟩
    rw [upI_s, ix_nI (by omega), upI_f (by omega), e2 p hpl]
    refine ⟨vp_in_nI (by omega) (by decide), fun q I5 e5 => ?_, fun q => h0 (fun z => q (lit_iff.mp z).2)⟩
    rw [upI_upI, nr_1] at e5
    subst e5
    exact h1 (lit_iff.mpr ⟨hpl, q⟩)
end TXC
