section LOOP
variable {K : MK} {R : MR} {t r : Nat}
theorem law_loop {b L : Nat} {xs : Nat → Int32} {Q : Prop} {kc ks n : Nat} (hd : t + 1681 ≤ r) (hL : L < 2 ^ 31) (hK1 : K t = some (.inr 6)) (hK2 : K r = some (.inr 7)) (hkc : kc ≤ 600000) (hks : ks ≤ 7302250) (hQ : Q) {I : MI} (hI : Rel2 K R t r I) : w_L_law_b18 b L xs Q t r 0 kc ks n K R I := by
  unfold w_L_law_b18
  intro X hX
  have key : ∀ d k I, L ≤ k + d → Rel2 K R t r I → k < 2 ^ 31 → X t r (nI k) kc ks n K R I := by
    intro d
    induction d with
    | zero =>
      intro k I hk hI hk31
      refine hX _ _ _ _ _ _ _ _ _ ?_
      unfold w_L_law_b18_body
      refine ⟨fun _ => ⟨hkc, hks, hQ⟩, fun z => absurd ?_ z⟩
      rcases Nat.lt_or_ge L 5 with c | c
      · have : nI L - 5 < 0 := by
          have h5 : L = 0 ∨ L = 1 ∨ L = 2 ∨ L = 3 ∨ L = 4 := by omega
          rcases h5 with rfl | rfl | rfl | rfl | rfl <;> decide
        exact Int32.lt_of_lt_of_le this (nI_pos' hk31)
      · rw [show nI L - 5 = nI (L - 5) from pk_sub (a := L) (b := 5) c]
        exact (nI_ltI (by omega) hk31).mpr (by omega)
    | succ d ih =>
      intro k I hk hI hk31
      refine hX _ _ _ _ _ _ _ _ _ ?_
      unfold w_L_law_b18_body
      refine ⟨fun _ => ⟨hkc, hks, hQ⟩, fun z => ?_⟩
      have hkL : k + 5 ≤ L := by
        rcases Nat.lt_or_ge L 5 with c | c
        · refine absurd ?_ z
          have : nI L - 5 < 0 := by
            have h5 : L = 0 ∨ L = 1 ∨ L = 2 ∨ L = 3 ∨ L = 4 := by omega
            rcases h5 with rfl | rfl | rfl | rfl | rfl <;> decide
          exact Int32.lt_of_lt_of_le this (nI_pos' hk31)
        · rw [show nI L - 5 = nI (L - 5) from pk_sub (a := L) (b := 5) c] at z
          rcases Nat.lt_or_ge (L - 5) k with q | q
          · exact absurd ((nI_ltI (by omega) hk31).mpr q) z
          · omega
      have v0 : vp_in (nI k) L = True := vpT (by omega) hL
      have v1 : vp_in (nI k + 1) L = True := by rw [show nI k + 1 = nI (k + 1) from nI_add k 1]; exact vpT (by omega) hL
      have v2 : vp_in (nI k + 2) L = True := by rw [show nI k + 2 = nI (k + 2) from nI_add k 2]; exact vpT (by omega) hL
      have v3 : vp_in (nI k + 3) L = True := by rw [show nI k + 3 = nI (k + 3) from nI_add k 3]; exact vpT (by omega) hL
      have v4 : vp_in (nI k + 4) L = True := by rw [show nI k + 4 = nI (k + 4) from nI_add k 4]; exact vpT (by omega) hL
      have next : ∀ I', Rel2 K R t r I' → w_L_law_b781 b L xs Q X t r (nI k) kc ks n K R I' := fun I' h => by
        unfold w_L_law_b781
        rw [show nI k + 5 = nI (k + 5) from nI_add k 5]
        exact ih (k + 5) I' (by omega) h (by omega)
      obtain ⟨S, hC, hR, hW⟩ := hI
      have hI : Rel2 K R t r I := ⟨S, hC, hR, hW⟩
      have g : ∀ (v : Int32) (I' : MI), Rel2 K R t r I' → (fun v v' I' => (v = v' → w_L_law_b781 b L xs Q X t r (nI k) kc ks n K R I') ∧ (¬ v = v' → False)) v v I' := fun v I' h => ⟨fun _ => next I' h, fun z => absurd rfl z⟩
      have gI : ∀ (v : Int32), (fun v v' I' => (v = v' → w_L_law_b781 b L xs Q X t r (nI k) kc ks n K R I') ∧ (¬ v = v' → False)) v v I := fun v => g v I hI
      simp only [v0, v1, v2, v3, v4, hkc, hks, hK1, hK2, true_and]
      exact ⟨fun _ => p_set hd hC hR hW g, fun _ => p_setShare hd hC hR hW g, fun _ => p_setTarget hd hC hR hW g, fun _ => p_setCell hd hC hR hW g, fun _ => p_read hd hC hR hW g, fun _ => p_write hd hC hR hW g, fun _ => p_ask hd hC hR hW g, fun _ => p_withdraw hd hC hR hW g, fun _ => p_pass hd hC hR hW g, fun _ => p_type hd hC hR hW g, fun _ => p_clear hd hC hR hW g, fun _ => p_undo hd hC hR hW g, fun _ => p_keep hd hC hR hW g, fun _ => p_restore hd hC hR hW g, fun _ => p_question hC hR gI, fun _ => p_tag hC hR gI, fun _ => p_master hC hR gI, fun _ => p_row hC hR gI, fun _ => p_target hC hR gI, fun _ => p_cell hC hR gI, fun _ => p_next hd hC hR hW g, fun _ => p_answeredIn hd hC hR hW g, fun _ => p_count hC hR gI, fun _ => next I hI⟩
  exact key L 0 I (by omega) hI (by omega)
end LOOP
