theorem pq_err {len : Nat} {tx : Nat → Int32} {p e : Nat} (h60 : len ≤ 60) (hp : p ≤ 60) (h : pq len tx p = .inl e) : e ≤ 62 := by
  unfold pq at h
  cases e1 : num len tx 3 p with
  | none => rw [e1] at h; cases h; omega
  | some r1 =>
    obtain ⟨m1, p1⟩ := r1
    rw [e1] at h
    simp only at h
    have n1 := num_lt e1
    by_cases l1 : lit len tx 62 p1 = true
    · rw [if_pos l1] at h
      cases e2 : num len tx 3 (p1 + 1) with
      | none => rw [e2] at h; cases h; omega
      | some r2 =>
        obtain ⟨t1, p2⟩ := r2
        rw [e2] at h
        simp only at h
        have n2 := num_lt e2
        by_cases l2 : lit len tx 119 p2 = true
        · rw [if_pos l2] at h
          cases e3 : num len tx 15 (p2 + 1) with
          | none => rw [e3] at h; cases h; omega
          | some r3 =>
            obtain ⟨a1, p3⟩ := r3
            rw [e3] at h
            simp only at h
            have n3 := num_lt e3
            by_cases l3 : lit len tx 61 p3 = true
            · rw [if_pos l3] at h
              cases e4 : num len tx 99 (p3 + 1) with
              | none => rw [e4] at h; cases h; omega
              | some r4 =>
                obtain ⟨v1, p4⟩ := r4
                rw [e4] at h
                cases h
            · rw [if_neg l3] at h; cases h; omega
        · rw [if_neg l2] at h
          by_cases l3 : lit len tx 114 p2 = true
          · rw [if_pos l3] at h
            cases e3 : num len tx 15 (p2 + 1) with
            | none => rw [e3] at h; cases h; omega
            | some r3 =>
              obtain ⟨a1, p3⟩ := r3
              rw [e3] at h
              cases h
          · rw [if_neg l3] at h; cases h; omega
    · rw [if_neg l1] at h; cases h; omega
theorem ps_err {len : Nat} {tx : Nat → Int32} (h60 : len ≤ 60) : ∀ f p e, p ≤ 60 → (ps len tx f p).2 = some e → e ≤ 62
  | 0, p, e, hp, h => by cases h; omega
  | f + 1, p, e, hp, h => by
    unfold ps at h
    cases he : pq len tx p with
    | inl e' => rw [he] at h; cases h; exact pq_err h60 hp he
    | inr z =>
      obtain ⟨m, t, a, v, p'⟩ := z
      obtain ⟨b1, b2, -⟩ := pq_lt he
      rw [he] at h
      simp only at h
      by_cases c : len ≤ p'
      · rw [if_pos c] at h; cases h
      · rw [if_neg c] at h
        by_cases l : lit len tx 59 p' = true
        · rw [if_pos l] at h; exact ps_err h60 f (p' + 1) e (by omega) h
        · rw [if_neg l] at h; cases h; omega
section PA
variable {K : MK} {R : MR} {I J : MI} {t r len : Nat} {tx : Nat → Int32} {S : St}
theorem pf_wok : ∀ (L : List Qn) {σ ρ : Sr}, WOK σ → RelB ρ σ → okQ L → roomP σ L → WOK (pf σ L)
  | [], _, _, h, _, _, _ => h
  | q :: l, σ, ρ, h, hr, hok, hro => by
    obtain ⟨m4, t4', a16⟩ := hok q (List.mem_cons_self ..)
    obtain ⟨hA, hl6, hro2⟩ := room_step hr.1 hro m4
    exact pf_wok l (put_wok h rfl hA m4 hl6) (put_rel (x3 := q.2.2.2) hr rfl hA m4 rfl hl6 ⟨_, t4', rfl⟩ ⟨_, a16, rfl⟩) (fun q' hq' => hok q' (List.mem_cons_of_mem _ hq')) hro2
theorem CT.fx (h : CT K R t I S) {I' : MI} (hf : FrX (t + 716) I I') : CT K R t I' S := by
  obtain ⟨hf1, hf2⟩ := hf
  have hf1' : ∀ c, c ≠ t + 716 → (c < t + 719 ∨ t + 729 ≤ c) → I' c = I c := fun c a b => hf1 c a (by omega)
  obtain ⟨g1, g2, h3, h4, h5, ⟨h6, h7⟩, h8, h9, h10, h11, h12, h13⟩ := h
  have e715 : I' (t + 715) = I (t + 715) := hf1' _ (by omega) (by omega)
  refine ⟨g1, g2.fr (fun a ha hb => hf1' a (by omega) (by omega)), by rw [hf1' t (by omega) (by omega)]; exact h3, h4, fun z => (h5 z).fr (fun a ha hb => hf1' a (by omega) (by omega)), ⟨h6, by rw [hf1' t (by omega) (by omega)]; exact h7⟩, by rw [e715]; exact h8, by rw [e715]; exact h9, fun j hj => ?_, h11, by rw [hf2]; exact h12, fun i hi => by rw [hf1' _ (by omega) (by omega)]; exact h13 i hi⟩
  rw [e715]
  have hg := h8 j (by omega)
  have hPj : pastA t (I (t + 715) j) = t + 729 + 238 * ix (I (t + 715) j) := rfl
  exact (h10 j hj).fr (fun a ha hb => hf1' a (by omega) (by omega))
theorem p_ask {G : Int32 → Int32 → MI → Prop} (hd : t + 1681 ≤ r) (hC : CT K R t I S) (hR : RT K R r I S) (hW : WS S) (hG : ∀ v I', Rel2 K R t r I' → G v v I') : w_X6_ask K R t I (fun v I1 => w_X7_ask K R r I1 (fun v' I2 => G v v' I2)) := by
  have hT := hC.1
  have hX := hT.o6
  have hTX : TX I (t + 716) S.len S.tx := ⟨hC.2.2.2.2.2.2.2.2.2.1, hC.2.2.2.2.2.2.2.2.2.2.1, hC.2.2.2.2.2.2.2.2.2.2.2⟩
  have hL := ps_len S.len S.tx
  have hok : okQ (ps S.len S.tx 10 0).1 := ps_ok 10 0
  have frX : ∀ I', FrX (t + 716) I I' → FrC t I I' := fun I' h a ha => h.1 a (by omega) (by omega)
  unfold w_X6_ask
  refine ⟨hT, c_findFault hX hTX (fun e I' he hf => ⟨fun z => ?_, fun _ => ?_⟩) (fun I' he hf hl h3 hq => ⟨fun _ => ?_, fun z => absurd rfl z⟩)⟩
  · exact absurd z (nI_ne5 (by have := ps_err hTX.1 10 0 e (by omega) he; omega))
  · have hC1 := hC.fx hf
    have hR1 := hR.ofC hd (frX I' hf)
    exact r_ask hR1 hC1.2.1 (fun e2 I2 he2 r2 f2 => by
      rw [he] at he2
      cases he2
      exact hG _ _ ⟨S, hC1.ofR hd f2, r2, hW⟩) (fun I2 he2 => by rw [he] at he2; cases he2) (fun I2 he2 => by rw [he] at he2; cases he2)
  · have hC1 := hC.fx hf
    have hR1 := hR.ofC hd (frX I' hf)
    have hS := hC1.2.1.1
    refine c_roomT hT hS hX (bus5 hC1.2.1).1 (fun m hm => ?_) h3 hl hq (fun q hq' => (hok q hq').1) (fun hro => ⟨fun _ => ?_, fun z => absurd z z10⟩) (fun hro => ⟨fun z => absurd rfl z, fun _ => ?_⟩)
    · rw [hC1.rd (so_ml m hm) (by omega) (by omega) (by omega) (by omega)]
      exact (hS.rows hm).2.1
    · refine c_recordT hC1 (fun I3 hC3 f3 g3 => ?_)
      have hrel := hC3.2.1
      rw [rec_σ] at hrel
      have h3' : I3 (t + 716) 3 = nI (ps S.len S.tx 10 0).1.length := by rw [g3 _ (by omega) (by omega)]; exact h3
      have hq' : FQ I3 (t + 716) (ps S.len S.tx 10 0).1 := fun j m t' av v hj => by
        have hj10 : j < 10 := by
          rcases Nat.lt_or_ge j (ps S.len S.tx 10 0).1.length with z | z
          · omega
          · rw [List.getElem?_eq_none z] at hj; cases hj
        rw [g3 _ (by omega) (by omega)]
        exact hq j m t' av v hj
      have h := c_puts (K := K) (R := R) (J := I3) (t := t) (ρ := rowB I3 (t + 1)) (σ := S.σ) (L := (ps S.len S.tx 10 0).1) (Q := fun v I1 => w_X7_ask K R r I1 (fun v' I2 => G v v' I2)) hT hrel h3' hl hq' hok hro (fun ρ' hρ' => ?_)
      · rw [stB_self] at h
        exact h
      · have hC4 := hC3.w hρ'
        have hfc : FrC t I (stB I3 (t + 1) ρ') := ((frX I' hf).trans f3).trans FrC_stB
        have hR4 := hR.ofC hd hfc
        refine r_ask hR4 hC1.2.1 (fun e2 I2 he2 => by rw [he] at he2; cases he2) (fun I2 _ hno => absurd hro hno) (fun I2 _ _ r2 f2 => hG _ _ ⟨_, hC4.ofR hd f2, r2, hW.r.w (pf_wok _ hW.1 hC1.2.1 hok hro)⟩)
    · exact r_ask hR1 hC1.2.1 (fun e2 I2 he2 => by rw [he] at he2; cases he2) (fun I2 _ _ r2 f2 => hG _ _ ⟨S, hC1.ofR hd f2, r2, hW⟩) (fun I2 _ hro2 => absurd hro2 hro)
end PA
