def FrA (r : Nat) (I I' : MI) : Prop := ∀ c, c ≠ r + 6 → I' c = I c
section TXS
variable {K : MK} {R : MR} {I J : MI} {r len : Nat} {tx : Nat → Int32}
theorem FrA.up {I' : MI} (h : FrA r I I') {k : Nat} {x : Int32} : FrA r I (upI I' (r + 6) k x) := fun c hc => by rw [upI_f hc]; exact h c hc
theorem TXR.fa {I' : MI} (hT : TXR I r len tx) (h : FrA r I I') : TXR I' r len tx := ⟨hT.1, by rw [h r (by omega)]; exact hT.2.1, fun i hi => by rw [h _ (by omega)]; exact hT.2.2 i hi⟩
theorem num3 {n : Nat} : (48 ≤ chr len tx n ∧ chr len tx n ≤ 51) ↔ ∃ d, num len tx 3 n = some (d, n + 1) ∧ chr len tx n = nI (48 + d) ∧ d ≤ 3 := by
  constructor
  · intro h
    obtain ⟨d, hd⟩ := chr_dig.mp ⟨h.1, Int32.le_trans h.2 (show (51 : Int32) ≤ 57 by decide)⟩
    obtain ⟨d1, d9, -, -⟩ := dig_some hd
    have e := chr_some hd
    have h3 : d ≤ 3 := by
      have := h.2
      rw [e] at this
      have := (nI_leI (b := 51) (by omega) (by omega)).mp this
      omega
    refine ⟨d, ?_, e, h3⟩
    unfold num
    rw [hd]
    simp only [if_neg (show ¬ 3 < d by omega)]
    cases he : dig len tx (n + 1) with
    | none => rfl
    | some e => simp only [if_pos (show d = 0 ∨ 3 < d * 10 + e by omega)]
  · rintro ⟨d, -, e, h3⟩
    rw [e]
    exact ⟨(nI_leI (a := 48) (by omega) (by omega)).mpr (by omega), (nI_leI (b := 51) (by omega) (by omega)).mpr (by omega)⟩
theorem num3_none {n : Nat} (h : ¬ (48 ≤ chr len tx n ∧ chr len tx n ≤ 51)) : num len tx 3 n = none := by
  unfold num
  cases hd : dig len tx n with
  | none => rfl
  | some d =>
    obtain ⟨d1, d9, -, -⟩ := dig_some hd
    have h3 : 3 < d := by
      rcases Nat.lt_or_ge 3 d with q | q
      · exact q
      · refine absurd ?_ h
        rw [chr_some hd]
        exact ⟨(nI_leI (a := 48) (by omega) (by omega)).mpr (by omega), (nI_leI (b := 51) (by omega) (by omega)).mpr (by omega)⟩
    simp only [if_pos h3]
theorem s48 (d : Nat) : nI (48 + d) - 48 = nI d := by
  have := pk_sub (a := 48 + d) (b := 48) (by omega)
  rw [show (48 + d) - 48 = d by omega] at this
  exact this
theorem rq148 {Q : MI → Prop} {z : Int32} {p w : Int32} (hM : IsModel K R r) (h : Q (mR (upI I (r + 6) 3 z) r p w)) : w_X7_question_b148 K R r Q z 3 (mR I r p w) := by
  unfold w_X7_question_b148
  refine ⟨hM, by unfold vp_in; decide, fun I3 e => ?_⟩
  rw [show ix (3 : Int32) = 3 by decide, mR_uo (by omega)] at e
  subst e
  exact h
/-- from the address on, wrong already -/
theorem rq97w {Q : MI → Prop} {y z : Int32} {n : Nat} {I' : MI} (hM : IsModel K R r) (hT : TXR I r len tx) (hn : n ≤ 60) (hf : FrA r I I') (h : ∀ I'', FrA r I I'' → Q (mR I'' r (nI n) 1)) : w_X7_question_b97 K R r Q y z (mR I' r (nI n) 1) := by
  have b126 : ∀ I2 z', FrA r I I2 → w_X7_question_b126 K R r Q y z' (mR I2 r (nI n) 1) := fun I2 z' f2 => by
    unfold w_X7_question_b126
    exact ⟨hM, fun _ => rq148 hM (h _ f2.up), fun _ => r_number1 (most := 99) hM (hT.fa f2) hn (fun y => rq148 hM (h _ f2.up))⟩
  unfold w_X7_question_b97
  refine ⟨hM, r_number1 (most := 15) hM (hT.fa hf) hn (fun v I11 e => ?_)⟩
  rw [mR_uo (by omega)] at e
  subst e
  exact ⟨fun _ => b126 _ _ hf.up, fun _ => r_sign1 hM (hT.fa hf.up) hn (fun v => b126 _ _ hf.up)⟩
theorem rq73w {Q : MI → Prop} {z : Int32} {n : Nat} {I' : MI} (hM : IsModel K R r) (hT : TXR I r len tx) (hn : n ≤ 60) (hf : FrA r I I') (h : ∀ I'', FrA r I I'' → Q (mR I'' r (nI n) 1)) : w_X7_question_b73 K R r Q z (mR I' r (nI n) 1) := by
  unfold w_X7_question_b73
  exact ⟨fun _ => ⟨hM, r_sign1 hM (hT.fa hf) hn (fun v => rq97w hM hT hn hf h)⟩, fun _ => ⟨hM, r_sign1 hM (hT.fa hf) hn (fun v => rq97w hM hT hn hf h)⟩⟩
/-- whether a w comes -/
theorem rqW {Q : MI → Prop} {n : Nat} {I' : MI} {w : Int32} (hM : IsModel K R r) (hT : TXR I' r len tx) (hn : n ≤ 60) (h1 : lit len tx 119 n = true → w_X7_question_b73 K R r Q 1 (mR I' r (nI n) w)) (h0 : lit len tx 119 n = false → w_X7_question_b73 K R r Q 0 (mR I' r (nI n) w)) : ((mR I' r (nI n) w r 7 ≤ mR I' r (nI n) w r 8 → w_X7_question_b72 K R r Q (mR I' r (nI n) w)) ∧ (¬ mR I' r (nI n) w r 7 ≤ mR I' r (nI n) w r 8 → vp_in (mR I' r (nI n) w r 8) 60 ∧ ((¬ mR I' r (nI n) w (r + 5) (ix (mR I' r (nI n) w r 8)) = 119 → w_X7_question_b72 K R r Q (mR I' r (nI n) w)) ∧ (mR I' r (nI n) w (r + 5) (ix (mR I' r (nI n) w r 8)) = 119 → w_X7_question_b73 K R r Q 1 (mR I' r (nI n) w))))) := by
  obtain ⟨h60, h7, h5⟩ := hT
  unfold w_X7_question_b72
  rw [mR_k (by omega), mR_8, h7, ix_nI (by omega), mR_o (by omega)]
  have f : ∀ {P : Prop}, P → ¬ lit len tx 119 n = true → lit len tx 119 n = false := fun _ z => by simpa using z
  refine ⟨fun c => h0 ?_, fun c => ?_⟩
  · have := (nI_leI (by omega) (by omega)).mp c
    exact f trivial (fun z => by have := (lit_iff.mp z).1; omega)
  · have hl : n < len := by
      rcases Nat.lt_or_ge n len with q | q
      · exact q
      · exact absurd ((nI_leI (by omega) (by omega)).mpr q) c
    rw [h5 n hl]
    exact ⟨vp_in_nI (by omega) (by decide), fun z => h0 (f trivial (fun q => z (lit_iff.mp q).2)), fun z => h1 (lit_iff.mpr ⟨hl, z⟩)⟩
theorem r_question {Q : MI → Prop} {n : Nat} (hM : IsModel K R r) (hT : TXR I r len tx) (hn : n ≤ 60) (h0 : ∀ e I', pq len tx n = .inl e → FrA r I I' → Q (mR I' r (nI e) 1)) (h1 : ∀ m t av v p' I', pq len tx n = .inr (m, t, av, v, p') → FrA r I I' → I' (r + 6) 0 = nI m → I' (r + 6) 1 = nI t → I' (r + 6) 2 = nI av → I' (r + 6) 3 = v → Q (mR I' r (nI p') 0)) : w_X7_question K R r (mR I r (nI n) 0) Q := by
  have hI : FrA r I I := fun _ _ => rfl
  have h60 := hT.1
  unfold w_X7_question
  refine ⟨hM, r_sign0 hM hT hn (fun c I25 e25 => ?_) (fun c I25 e25 => ?_)⟩
  · obtain ⟨m, n1, ec, m3⟩ := num3.mp c
    obtain ⟨q1, q2, -⟩ := num_lt n1
    rw [ec, s48, mR_uo (by omega)] at e25
    subst e25
    have f1 : FrA r I (upI I (r + 6) 0 (nI m)) := hI.up
    refine r_sign0 (lo := 62) (hi := 62) hM (hT.fa f1) (by omega) (fun l => ?_) (fun l => ?_)
    · have l1 := (chr_lit (c := 62) (by omega) (by omega)).mp l
      have ll1 := (lit_iff.mp l1).1
      refine r_sign0 hM (hT.fa f1) (by omega) (fun c2 I30 e30 => ?_) (fun c2 I30 e30 => ?_)
      · obtain ⟨t, n2, ec2, t3⟩ := num3.mp c2
        obtain ⟨q3, q4, -⟩ := num_lt n2
        rw [ec2, s48, mR_uo (by omega)] at e30
        subst e30
        have f2 : FrA r I (upI (upI I (r + 6) 0 (nI m)) (r + 6) 1 (nI t)) := f1.up
        have g0 : upI (upI I (r + 6) 0 (nI m)) (r + 6) 1 (nI t) (r + 6) 0 = nI m := by rw [upI_k (by omega), upI_s]
        have g1 : upI (upI I (r + 6) 0 (nI m)) (r + 6) 1 (nI t) (r + 6) 1 = nI t := upI_s
        generalize upI (upI I (r + 6) 0 (nI m)) (r + 6) 1 (nI t) = Y at *
        refine rqW hM (hT.fa f2) (by omega) (fun l2 => ?_) (fun l2 => ?_)
        · have ll2 := (lit_iff.mp l2).1
          unfold w_X7_question_b73
          refine ⟨fun z => absurd z z10, fun _ => ⟨hM, r_sign0 (lo := 119) (hi := 119) hM (hT.fa f2) (by omega) (fun _ => ?_) (fun z => absurd ((chr_lit (c := 119) (by omega) (by omega)).mpr l2) z)⟩⟩
          unfold w_X7_question_b97
          refine ⟨hM, r_number0 (most := 15) hM (hT.fa f2) (by omega) (by omega) (by omega) (fun e3 y I11 e11 => ?_) (fun av p3 e3 I11 e11 => ?_)⟩
          · rw [mR_uo (by omega)] at e11
            subst e11
            have hw := h0 (n + 1 + 1 + 1 + 1)
            refine ⟨fun z => absurd z z10, fun _ => r_sign1 hM (hT.fa f2.up) (by omega) (fun v => ?_)⟩
            have hp : pq len tx n = .inl (n + 1 + 1 + 1 + 1) := by unfold pq; rw [n1]; simp only [if_pos l1, n2, if_pos l2, e3]
            unfold w_X7_question_b126
            exact ⟨hM, fun z => absurd z z10, fun _ => r_number1 (most := 99) hM (hT.fa f2.up) (by omega) (fun y => rq148 hM (h0 _ _ hp f2.up.up))⟩
          · obtain ⟨a1, a2, a3⟩ := num_lt e3
            rw [mR_uo (by omega)] at e11
            subst e11
            refine ⟨fun z => absurd z z10, fun _ => r_sign0 (lo := 61) (hi := 61) hM (hT.fa f2.up) (by omega) (fun l4 => ?_) (fun l4 => ?_)⟩
            · have l4' := (chr_lit (c := 61) (by omega) (by omega)).mp l4
              have ll4 := (lit_iff.mp l4').1
              unfold w_X7_question_b126
              refine ⟨hM, fun z => absurd z z10, fun _ => r_number0 (most := 99) hM (hT.fa f2.up) (by omega) (by omega) (by omega) (fun e4 y => rq148 hM (h0 (p3 + 1) _ ?_ f2.up.up)) (fun v p4 e4 => rq148 hM (h1 m t av (nI v) p4 _ ?_ f2.up.up ?_ ?_ ?_ ?_))⟩
              · unfold pq; rw [n1]; simp only [if_pos l1, n2, if_pos l2, e3, if_pos l4', e4]
              · unfold pq; rw [n1]; simp only [if_pos l1, n2, if_pos l2, e3, if_pos l4', e4]
              · rw [upI_k (by omega), upI_k (by omega)]; exact g0
              · rw [upI_k (by omega), upI_k (by omega)]; exact g1
              · rw [upI_k (by omega), upI_s]
              · rw [upI_s]
            · have l4' : ¬ lit len tx 61 p3 = true := fun z => l4 ((chr_lit (c := 61) (by omega) (by omega)).mpr z)
              have hp : pq len tx n = .inl p3 := by unfold pq; rw [n1]; simp only [if_pos l1, n2, if_pos l2, e3, if_neg l4']
              unfold w_X7_question_b126
              exact ⟨hM, fun z => absurd z z10, fun _ => r_number1 (most := 99) hM (hT.fa f2.up) (by omega) (fun y => rq148 hM (h0 _ _ hp f2.up.up))⟩
        · have l2' : ¬ lit len tx 119 (n + 1 + 1 + 1) = true := by rw [l2]; decide
          unfold w_X7_question_b73
          refine ⟨fun _ => ⟨hM, r_sign0 (lo := 114) (hi := 114) hM (hT.fa f2) (by omega) (fun l3 => ?_) (fun l3 => ?_)⟩, fun z => absurd rfl z⟩
          · have l3' := (chr_lit (c := 114) (by omega) (by omega)).mp l3
            have ll3 := (lit_iff.mp l3').1
            unfold w_X7_question_b97
            refine ⟨hM, r_number0 (most := 15) hM (hT.fa f2) (by omega) (by omega) (by omega) (fun e3 y I11 e11 => ?_) (fun av p3 e3 I11 e11 => ?_)⟩
            · rw [mR_uo (by omega)] at e11
              subst e11
              have hp : pq len tx n = .inl (n + 1 + 1 + 1 + 1) := by unfold pq; rw [n1]; simp only [if_pos l1, n2, if_neg l2', if_pos l3', e3]
              unfold w_X7_question_b126
              exact ⟨fun _ => ⟨hM, fun _ => rq148 hM (h0 _ _ hp f2.up.up), fun z => absurd rfl z⟩, fun z => absurd rfl z⟩
            · rw [mR_uo (by omega)] at e11
              subst e11
              have hp : pq len tx n = .inr (m, t, av, -5, p3) := by unfold pq; rw [n1]; simp only [if_pos l1, n2, if_neg l2', if_pos l3', e3]
              unfold w_X7_question_b126
              refine ⟨fun _ => ⟨hM, fun _ => rq148 hM (h1 m t av (-5) p3 _ hp f2.up.up ?_ ?_ ?_ upI_s), fun z => absurd rfl z⟩, fun z => absurd rfl z⟩
              · rw [upI_k (by omega), upI_k (by omega)]; exact g0
              · rw [upI_k (by omega), upI_k (by omega)]; exact g1
              · rw [upI_k (by omega), upI_s]
          · have l3' : ¬ lit len tx 114 (n + 1 + 1 + 1) = true := fun z => l3 ((chr_lit (c := 114) (by omega) (by omega)).mpr z)
            have hp : pq len tx n = .inl (n + 1 + 1 + 1) := by unfold pq; rw [n1]; simp only [if_pos l1, n2, if_neg l2', if_neg l3']
            exact rq97w hM hT (by omega) f2 (fun I'' f => h0 _ _ hp f)
      · have n2 := num3_none c2
        have hp : pq len tx n = .inl (n + 1 + 1) := by unfold pq; rw [n1]; simp only [if_pos l1, n2]
        rw [mR_uo (by omega)] at e30
        subst e30
        exact rqW hM (hT.fa f1.up) (by omega) (fun _ => rq73w hM hT (by omega) f1.up (fun I'' f => h0 _ _ hp f)) (fun _ => rq73w hM hT (by omega) f1.up (fun I'' f => h0 _ _ hp f))
    · have l1 : ¬ lit len tx 62 (n + 1) = true := fun z => l ((chr_lit (c := 62) (by omega) (by omega)).mpr z)
      have hp : pq len tx n = .inl (n + 1) := by unfold pq; rw [n1]; simp only [if_neg l1]
      refine r_sign1 hM (hT.fa f1) (by omega) (fun y I30 e30 => ?_)
      rw [mR_uo (by omega)] at e30
      subst e30
      exact rqW hM (hT.fa f1.up) (by omega) (fun _ => rq73w hM hT (by omega) f1.up (fun I'' f => h0 _ _ hp f)) (fun _ => rq73w hM hT (by omega) f1.up (fun I'' f => h0 _ _ hp f))
  · have n1 := num3_none c
    have hp : pq len tx n = .inl n := by unfold pq; rw [n1]
    rw [mR_uo (by omega)] at e25
    subst e25
    refine r_sign1 hM (hT.fa hI.up) hn (fun y => r_sign1 hM (hT.fa hI.up) hn (fun y2 I30 e30 => ?_))
    rw [mR_uo (by omega)] at e30
    subst e30
    exact rqW hM (hT.fa hI.up.up) hn (fun _ => rq73w hM hT hn hI.up.up (fun I'' f => h0 _ _ hp f)) (fun _ => rq73w hM hT hn hI.up.up (fun I'' f => h0 _ _ hp f))
end TXS
