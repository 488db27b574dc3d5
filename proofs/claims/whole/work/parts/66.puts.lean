def okQ (L : List Qn) : Prop := ∀ q, q ∈ L → q.1 < 4 ∧ q.2.1 < 4 ∧ q.2.2.1 < 16
theorem ps_ok {len : Nat} {tx : Nat → Int32} : ∀ f p, okQ (ps len tx f p).1
  | 0, p => fun q hq => by cases hq
  | f + 1, p => by
    have ih := fun p' => ps_ok (len := len) (tx := tx) f p'
    unfold ps
    cases he : pq len tx p with
    | inl e => exact fun q hq => by cases hq
    | inr z =>
      obtain ⟨m, t, a, v, p'⟩ := z
      obtain ⟨b1, b2, b3, b4, b5⟩ := pq_lt he
      have h1 : ∀ q : Qn, q = (m, t, a, v) → q.1 < 4 ∧ q.2.1 < 4 ∧ q.2.2.1 < 16 := fun q e => by subst e; exact ⟨by show m < 4; omega, by show t < 4; omega, by show a < 16; omega⟩
      by_cases c : len ≤ p'
      · simp only [if_pos c]
        exact fun q hq => h1 q (by simpa using hq)
      · by_cases l : lit len tx 59 p' = true
        · simp only [if_neg c, if_pos l]
          intro q hq
          rcases List.mem_cons.mp hq with e | e
          · exact h1 q e
          · exact ih (p' + 1) q e
        · simp only [if_neg c, if_neg l]
          exact fun q hq => h1 q (by simpa using hq)
section PU
variable {K : MK} {R : MR} {I J : MI} {t r len : Nat} {tx : Nat → Int32} {S : St} {L : List Qn}
theorem c_puts {Q : Int32 → MI → Prop} {σ ρ : Sr} (hT : IsTag K R t) (hR : RelB ρ σ) (h3 : J (t + 716) 3 = nI L.length) (hL : L.length ≤ 10) (hq : FQ J (t + 716) L) (hok : okQ L) (hrm : roomP σ L) (h : ∀ ρ', RelB ρ' (pf σ L) → Q (nI L.length) (stB J (t + 1) ρ')) : w_X6_ask_b35 K R t Q 0 (stB J (t + 1) ρ) := by
  have hX := hT.o6
  unfold w_X6_ask_b35
  intro X hXX
  have key : ∀ d j, j + d = L.length → ∀ ρ σj, RelB ρ σj → pf σj (L.drop j) = pf σ L → roomP σj (L.drop j) → X (nI j) (stB J (t + 1) ρ) := by
    intro d
    induction d with
    | zero =>
      intro j hj ρ σj hr hp hro
      refine hXX _ _ ?_
      have hjl : L.length ≤ j := by omega
      have hjl2 : j = L.length := by omega
      rw [List.drop_eq_nil_of_le hjl] at hp
      have hp2 : σj = pf σ L := hp
      unfold w_X6_ask_b35_body
      rw [stB_o (by omega), h3]
      refine ⟨hT, fun _ => h ρ (by rw [← hp2]; exact hr), fun z => absurd ((nI_leI (by omega) (by omega)).mpr hjl) z⟩
    | succ d ih =>
      intro j hj ρ σj hr hp hro
      refine hXX _ _ ?_
      have hjl : j < L.length := by omega
      rw [List.drop_eq_getElem_cons hjl] at hp hro
      obtain ⟨m4, t4', a16⟩ := hok L[j] (List.getElem_mem hjl)
      obtain ⟨hA, hl6, hro2⟩ := room_step hr.1 hro m4
      obtain ⟨e0, e1, e2, e3⟩ := hq j L[j].1 L[j].2.1 L[j].2.2.1 L[j].2.2.2 (by rw [List.getElem?_eq_getElem hjl])
      unfold w_X6_ask_b35_body w_X6_ask_b83
      rw [stB_o (by omega), h3]
      refine ⟨hT, fun z => absurd ((nI_leI (by omega) (by omega)).mp z) (by omega), fun _ => ?_⟩
      unfold w_X4_questionAt w_X4_questionAt_b30
      rw [stB_o (by omega), h3]
      refine ⟨hX, c_idx1 hjl (by omega) ⟨fun z => absurd z z10, fun _ => c_idx1 (n := 10) (by omega) (by decide) ⟨fun z => absurd z z10, fun _ => ⟨vp_in_nI (by omega) (by decide), ?_⟩⟩⟩⟩
      rw [ix_nI (by omega)]
      refine ⟨fun z => (by cases z), fun r4 e4 => ?_⟩
      cases e4
      rw [stB_o (by omega), stB_o (by omega), stB_o (by omega), stB_o (by omega), e0, e1, e2, e3]
      refine ⟨hX.p2 (by omega), c_put hT.o0 hr rfl hA m4 rfl hl6 ⟨_, t4', rfl⟩ ⟨_, a16, rfl⟩ (fun ρ' hρ' => ?_)⟩
      rw [nr_1]
      exact ih (j + 1) (by omega) ρ' _ hρ' hp hro2
  exact key L.length 0 (by omega) ρ σ hR rfl hrm
theorem stS_mR {σ : Sr} {p w : Int32} : stS (mR I r p w) r σ = mR (stS I r σ) r p w := by
  unfold mR
  rw [← up_o (by omega), ← up_o (by omega)]
def FrD (r : Nat) (I I' : MI) : Prop := ∀ c, c ≠ r + 6 → c ≠ r + 1 → I' c = I c
theorem r_go1 {Q : Int32 → MI → Prop} {σ ρ : Sr} (hM : IsModel K R r) (hT : TXR I r len tx) (hσ : I (r + 1) = σ) (hr : RelB ρ σ) (hn : (ps len tx 10 0).2 = none) (hro : roomP σ (ps len tx 10 0).1) (h : ∀ I' e, FrD r I I' → I' (r + 1) = pf σ (ps len tx 10 0).1 → Q (nI (ps len tx 10 0).1.length) (mR I' r (nI e) 0)) : w_X7_go K R r 1 I Q := by
  have h60 := hT.1
  unfold w_X7_go
  refine ⟨hM, fun I20 e20 I21 e21 => ?_⟩
  subst e20
  rw [show I21 = mR I r (nI 0) 0 from e21]
  clear e21 I21
  unfold w_X7_go_b14
  intro X hX
  have stop : ∀ n I', Q n I' → X n 0 I' := fun n I' h => hX _ _ _ (by
    unfold w_X7_go_b14_body
    exact ⟨fun _ => h, fun z => absurd rfl z⟩)
  have key : ∀ f i p I' σ ρ, p ≤ 60 → TXR I' r len tx → I' (r + 1) = σ → RelB ρ σ → (ps len tx f p).2 = none → roomP σ (ps len tx f p).1 → (∀ I'' e, FrD r I' I'' → I'' (r + 1) = pf σ (ps len tx f p).1 → Q (nI (i + (ps len tx f p).1.length)) (mR I'' r (nI e) 0)) → X (nI i) 1 (mR I' r (nI p) 0) := by
    intro f
    induction f with
    | zero => intro i p I' σ ρ hp hT' hσ' hr' hn' hro' g; cases hn'
    | succ f ih =>
      intro i p I' σ ρ hp hT' hσ' hr' hn' hro' g
      refine hX _ _ _ ?_
      unfold w_X7_go_b14_body
      refine ⟨fun z => absurd z z10, fun _ => ⟨hM, r_question hM hT' hp (fun e I'' he f1 => ?_) (fun m t av v p' I'' he f1 v0 v1 v2 v3 => ?_)⟩⟩
      · unfold ps at hn'
        rw [he] at hn'
        cases hn'
      · obtain ⟨b1, b2, b3, b4, b5⟩ := pq_lt he
        have hps : ps len tx (f + 1) p = if len ≤ p' then ([(m, t, av, v)], none) else if lit len tx 59 p' then ((m, t, av, v) :: (ps len tx f (p' + 1)).1, (ps len tx f (p' + 1)).2) else ([(m, t, av, v)], some p') := by
          conv => lhs; unfold ps
          rw [he]
        have hhd : ∃ l, (ps len tx (f + 1) p).1 = (m, t, av, v) :: l := by
          rw [hps]
          by_cases c : len ≤ p'
          · rw [if_pos c]; exact ⟨_, rfl⟩
          · rw [if_neg c]
            by_cases l : lit len tx 59 p' = true
            · rw [if_pos l]; exact ⟨_, rfl⟩
            · rw [if_neg l]; exact ⟨_, rfl⟩
        obtain ⟨l, hl⟩ := hhd
        rw [hl] at hro' g
        obtain ⟨hA, hl6, hro2⟩ := room_step hr'.1 hro' (show m < 4 by omega)
        have hrel := put_rel (x3 := v) hr' rfl hA (show m < 4 by omega) rfl hl6 ⟨t, by omega, rfl⟩ ⟨av, by omega, rfl⟩
        refine ⟨fun z => absurd z z10, fun _ => ?_⟩
        rw [mR_o (by omega), v0, v1, v2, v3]
        have e5 : stS (mR I'' r (nI p') 0) r σ = mR I'' r (nI p') 0 := by
          have : mR I'' r (nI p') 0 (r + 1) = σ := by rw [mR_o (by omega), f1 _ (by omega)]; exact hσ'
          rw [← this, stS_self]
        have hput := r_put (K := K) (R := R) (I := mR I'' r (nI p') 0) (r := r) (σ := σ) (A := ix (σ 4)) (L := loN σ m) (m := m) (x1 := nI t) (x2 := nI av) (x3 := v) (Q := fun v16 I15 => w_X7_go_b84 K R r 1 Q X (nI i + (1:Int32)) I15) hM hr'.1 rfl hA (by omega) rfl hl6 ?_
        · rw [e5] at hput
          exact hput
        · rw [stS_mR]
          have fD : FrD r I' (stS I'' r (putS σ m (ix (σ 4)) (loN σ m) (nI t) (nI av) v)) := fun c c1 c2 => by
            funext j
            rw [stS_o c2, f1 c c1]
          have eY : stS I'' r (putS σ m (ix (σ 4)) (loN σ m) (nI t) (nI av) v) (r + 1) = putS σ m (ix (σ 4)) (loN σ m) (nI t) (nI av) v := by funext j; exact stS_s
          have hT3 : TXR (stS I'' r (putS σ m (ix (σ 4)) (loN σ m) (nI t) (nI av) v)) r len tx := ⟨h60, by rw [fD r (by omega) (by omega)]; exact hT'.2.1, fun i hi => by rw [fD _ (by omega) (by omega)]; exact hT'.2.2 i hi⟩
          generalize stS I'' r (putS σ m (ix (σ 4)) (loN σ m) (nI t) (nI av) v) = Y at *
          unfold w_X7_go_b84 w_X7_go_b106 w_X7_go_b107 w_X7_go_b134
          rw [mR_9, mR_8, mR_k (by omega), hT3.2.1, nr_1]
          refine ⟨hM, fun z => absurd rfl z, fun _ => ⟨fun c => ⟨fun _ => stop _ _ ?_, fun z => absurd rfl z⟩, fun c => ⟨fun z => absurd z z10, fun _ => ⟨hM, ?_⟩⟩⟩⟩
          · have hc := (nI_leI (by omega) (by omega)).mp c
            rw [hps, if_pos hc] at hl
            cases hl
            exact g Y p' fD eY
          · have hc : ¬ len ≤ p' := fun z => c ((nI_leI (by omega) (by omega)).mpr z)
            rw [hps, if_neg hc] at hl hn'
            refine r_sign0 (lo := 59) (hi := 59) hM hT3 (by omega) (fun l1 => ?_) (fun l1 => ?_)
            · have l' := (chr_lit (c := 59) (by omega) (by omega)).mp l1
              rw [if_pos l'] at hl hn'
              cases hl
              rw [mR_9]
              refine ⟨fun z => absurd rfl z, fun _ => ih (i + 1) (p' + 1) Y _ _ (by omega) hT3 eY hrel hn' hro2 (fun I4 e f4 e4 => ?_)⟩
              have := g I4 e (fun c c1 c2 => (f4 c c1 c2).trans (fD c c1 c2)) e4
              rw [show i + ((m, t, av, v) :: (ps len tx f (p' + 1)).1).length = i + 1 + (ps len tx f (p' + 1)).1.length by simp; omega] at this
              exact this
            · have l' : ¬ lit len tx 59 p' = true := fun z => l1 ((chr_lit (c := 59) (by omega) (by omega)).mpr z)
              rw [if_neg l'] at hn'
              cases hn'
  refine key 10 0 0 I σ ρ (by omega) hT hσ hr hn hro (fun I' e f1 e1 => ?_)
  rw [Nat.zero_add]
  exact h I' e f1 e1
end PU
