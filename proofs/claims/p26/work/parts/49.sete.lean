theorem nar_i2cv (x : Int32) : vp_nar .char (i2cv x) = i2cv x := by
  rw [vp_nar_char]
  unfold i2cv
  have h : (x.toUInt32 % 65536).toInt32.toUInt32.toUInt16.toUInt32 = x.toUInt32 % 65536 := by
    apply UInt32.toNat_inj.mp
    simp
  rw [h]
section SE
variable {K : MK} {R : MR} {I J : MI} {t r b : Nat} {S : St}
theorem c_tickT {Q : Int32 → MI → Prop} (hC : CT K R t I S) (hQ : ∀ I', CT K R t I' (S.wσ (tickS S.σ)) → FrC t I I' → Q (tickQ S.σ) I') : w_X0_passTick K R (t + 1) I Q := by
  have h := c_tick (K := K) (R := R) (J := I) (b := t + 1) (ρ := rowB I (t + 1)) (σ := S.σ) (Q := Q) hC.1.o0 hC.2.1 (fun ρ' hr _ => hQ _ (hC.w hr) FrC_stB)
  rw [stB_self] at h
  exact h
theorem tickQ_K {σ : Sr} (hS : InvS σ) : tickQ σ = -5 ↔ tickK σ = -5 := tripQ_K (doAllL_inv hS 4 (by omega)).1
def tkN (σ : Sr) : Nat → Sr
  | 0 => σ
  | n + 1 => tickS (tkN σ n)
def mvN (σ : Sr) : Nat → Nat
  | 0 => 0
  | n + 1 => if tickQ (tkN σ n) = -5 then mvN σ n else mvN σ n + 1
theorem tkN_inv {σ : Sr} (hS : InvS σ) : ∀ n, InvS (tkN σ n)
  | 0 => hS
  | n + 1 => tickS_inv (tkN_inv hS n)
theorem tkN_wok {σ : Sr} (hS : InvS σ) (h : WOK σ) : ∀ n, WOK (tkN σ n)
  | 0 => h
  | n + 1 => tick_wok (tkN_inv hS n) (tkN_wok hS h n)
theorem wσσ (S : St) (a c : Sr) : (S.wσ a).wσ c = S.wσ c := rfl
theorem CT.wid (h : CT K R t I S) : CT K R t I (S.wσ S.σ) := h
def St.text (S : St) (len : Nat) (tx : Nat → Int32) : St := (S.σ, S.kp, S.κ, S.c, S.hs, len, tx)
theorem CT.txt (h : CT K R t I S) {I' : MI} {len : Nat} {tx : Nat → Int32} (hf : ∀ a, t ≤ a → a < t + 1681 → a ≠ t + 716 → a ≠ t + 717 → I' a = I a) (hl : len ≤ 60) (h1 : I' (t + 716) 1 = nI len) (h2 : ∀ i, i < len → I' (t + 717) i = tx i) : CT K R t I' (S.text len tx) := by
  obtain ⟨g1, g2, h3, h4, h5, ⟨h6, h7⟩, h8, h9, h10, h11, h12, h13⟩ := h
  have e715 : I' (t + 715) = I (t + 715) := hf _ (by omega) (by omega) (by omega) (by omega)
  refine ⟨g1, g2.fr (fun a ha hb => hf a (by omega) (by omega) (by omega) (by omega)), by rw [hf t (by omega) (by omega) (by omega) (by omega)]; exact h3, h4, fun z => (h5 z).fr (fun a ha hb => hf a (by omega) (by omega) (by omega) (by omega)), ⟨h6, by rw [hf t (by omega) (by omega) (by omega) (by omega)]; exact h7⟩, by rw [e715]; exact h8, by rw [e715]; exact h9, fun j hj => ?_, hl, h1, h2⟩
  rw [e715]
  have hg := h8 j (by have : j < S.c := hj; omega)
  have hPj : pastA t (I (t + 715) j) = t + 729 + 238 * ix (I (t + 715) j) := rfl
  exact (h10 j hj).fr (fun a ha hb => hf a (by omega) (by omega) (by omega) (by omega))
end SE
