def cq : List Qn → Nat → Nat
  | [], _ => 0
  | q :: l, m => cq l m + (if q.1 = m then 1 else 0)
theorem pq_end {len : Nat} {tx : Nat → Int32} {p : Nat} (h : len ≤ p) : pq len tx p = .inl p := by
  have hd : dig len tx p = none := by unfold dig; rw [if_neg (by omega)]
  have hn : num len tx 3 p = none := by unfold num; rw [hd]
  unfold pq
  rw [hn]
def FrB (r : Nat) (I I' : MI) : Prop := ∀ c, c ≠ r + 6 → c ≠ r + 7 → I' c = I c
section GO
variable {K : MK} {R : MR} {I J : MI} {r len : Nat} {tx : Nat → Int32}
theorem FrB.trans {I J L : MI} (h : FrB r I J) (g : FrB r J L) : FrB r I L := fun c c1 c2 => (g c c1 c2).trans (h c c1 c2)
theorem FrA.b {I I' : MI} (h : FrA r I I') : FrB r I I' := fun c c1 _ => h c c1
theorem TXR.fb {I' : MI} (hT : TXR I r len tx) (h : FrB r I I') : TXR I' r len tx := ⟨hT.1, by rw [h r (by omega) (by omega)]; exact hT.2.1, fun i hi => by rw [h _ (by omega) (by omega)]; exact hT.2.2 i hi⟩
theorem r_go0 {Q : Int32 → MI → Prop} {base : Nat → Nat} (hM : IsModel K R r) (hT : TXR I r len tx) (hb : ∀ m, m < 4 → I (r + 7) m = nI (base m)) (h0 : ∀ e n I', (ps len tx 10 0).2 = some e → FrB r I I' → Q n (mR I' r (nI e) 1)) (h1 : ∀ I' e, (ps len tx 10 0).2 = none → FrB r I I' → (∀ m, m < 4 → I' (r + 7) m = nI (base m + cq (ps len tx 10 0).1 m)) → Q (nI (ps len tx 10 0).1.length) (mR I' r (nI e) 0)) : w_X7_go K R r 0 I Q := by
  have h60 := hT.1
  unfold w_X7_go
  refine ⟨hM, fun I20 e20 I21 e21 => ?_⟩
  subst e20
  rw [show I21 = mR I r (nI 0) 0 from e21]
  clear e21 I21
  unfold w_X7_go_b14
  intro X hX
  have stop : ∀ n I', Q n I' → X n 0 I' := fun n I' h => hX _ _ _ (by
    unfold w_X7_go_b14_body
    exact ⟨fun _ => h, fun z => absurd rfl z⟩)
  have wrong : ∀ y e I', Q y (mR I' r (nI e) 1) → w_X7_go_b84 K R r 0 Q X y (mR I' r (nI e) 1) := fun y e I' h => by
    unfold w_X7_go_b84 w_X7_go_b106 w_X7_go_b107
    rw [mR_9]
    exact ⟨hM, fun _ => ⟨fun _ => stop _ _ h, fun z => absurd rfl z⟩, fun z => absurd z z10⟩
  have key : ∀ f i p I' (base' : Nat → Nat), 60 ≤ p + 6 * f → p ≤ 60 → TXR I' r len tx → (∀ m, m < 4 → I' (r + 7) m = nI (base' m)) → (∀ e n I'', (ps len tx f p).2 = some e → FrB r I' I'' → Q n (mR I'' r (nI e) 1)) → (∀ I'' e, (ps len tx f p).2 = none → FrB r I' I'' → (∀ m, m < 4 → I'' (r + 7) m = nI (base' m + cq (ps len tx f p).1 m)) → Q (nI (i + (ps len tx f p).1.length)) (mR I'' r (nI e) 0)) → X (nI i) 1 (mR I' r (nI p) 0) := by
    intro f
    induction f with
    | zero =>
      intro i p I' base' hpf hp hT' hb' g0 g1
      refine hX _ _ _ ?_
      unfold w_X7_go_b14_body
      refine ⟨fun z => absurd z z10, fun _ => ⟨hM, r_question hM hT' hp (fun e I'' he f1 => ?_) (fun m t av v p' I'' he => ?_)⟩⟩
      · rw [pq_end (by omega)] at he
        cases he
        refine ⟨fun _ => ⟨fun _ => wrong _ _ _ (g0 _ _ _ rfl f1.b), fun z => ?_⟩, fun z => absurd rfl z⟩
        rw [mR_9] at z
        exact absurd z z10
      · rw [pq_end (by omega)] at he
        cases he
    | succ f ih =>
      intro i p I' base' hpf hp hT' hb' g0 g1
      refine hX _ _ _ ?_
      unfold w_X7_go_b14_body
      refine ⟨fun z => absurd z z10, fun _ => ⟨hM, r_question hM hT' hp (fun e I'' he f1 => ?_) (fun m t av v p' I'' he f1 v0 v1 v2 v3 => ?_)⟩⟩
      · refine ⟨fun _ => ⟨fun _ => wrong _ _ _ (g0 _ _ _ ?_ f1.b), fun z => ?_⟩, fun z => absurd rfl z⟩
        · unfold ps
          rw [he]
        · rw [mR_9] at z
          exact absurd z z10
      · obtain ⟨b1, b2, b3, b4, b5⟩ := pq_lt he
        rw [mR_9, mR_o (by omega), v0, ix_nI (by omega)]
        refine ⟨fun _ => ⟨fun z => absurd rfl z, fun _ => ⟨vp_in_nI (by omega) (by decide), vp_in_nI (by omega) (by decide), fun I13 e13 => ?_⟩⟩, fun z => absurd rfl z⟩
        rw [mR_o (by omega), mR_uo (by omega), f1 (r + 7) (by omega), hb' m (by omega), nr_1] at e13
        subst e13
        have fB : FrB r I' (upI I'' (r + 7) m (nI (base' m + 1))) := fun c c1 c2 => by rw [upI_f c2]; exact f1 c c1
        have hT3 := hT'.fb fB
        have hb3 : ∀ m', m' < 4 → upI I'' (r + 7) m (nI (base' m + 1)) (r + 7) m' = nI (base' m' + (if m = m' then 1 else 0)) := fun m' hm' => by
          by_cases e : m' = m
          · subst e; rw [upI_s, if_pos rfl]
          · rw [upI_k e, f1 _ (by omega), hb' m' hm', if_neg (Ne.symm e)]
            rfl
        generalize upI I'' (r + 7) m (nI (base' m + 1)) = Y at *
        unfold w_X7_go_b84 w_X7_go_b106 w_X7_go_b107 w_X7_go_b134
        rw [mR_9, mR_8, mR_k (by omega), hT3.2.1, nr_1]
        refine ⟨hM, fun z => absurd rfl z, fun _ => ⟨fun c => ⟨fun _ => stop _ _ ?_, fun z => absurd rfl z⟩, fun c => ⟨fun z => absurd z z10, fun _ => ⟨hM, ?_⟩⟩⟩⟩
        · have hc := (nI_leI (by omega) (by omega)).mp c
          have e2 : ps len tx (f + 1) p = ([(m, t, av, v)], none) := by
            conv => lhs; unfold ps
            rw [he]
            simp only [if_pos hc]
          rw [e2] at g1
          refine g1 Y p' rfl fB (fun m' hm' => ?_)
          rw [hb3 m' hm']
          simp [cq]
        · have hc : ¬ len ≤ p' := fun z => c ((nI_leI (by omega) (by omega)).mpr z)
          refine r_sign0 (lo := 59) (hi := 59) hM hT3 (by omega) (fun l => ?_) (fun l => ?_)
          · have l' := (chr_lit (c := 59) (by omega) (by omega)).mp l
            have e2 : ps len tx (f + 1) p = ((m, t, av, v) :: (ps len tx f (p' + 1)).1, (ps len tx f (p' + 1)).2) := by
              conv => lhs; unfold ps
              rw [he]
              simp only [if_neg hc, if_pos l']
            rw [e2] at g0 g1
            rw [mR_9]
            refine ⟨fun z => absurd rfl z, fun _ => ih (i + 1) (p' + 1) Y (fun m' => base' m' + (if m = m' then 1 else 0)) (by omega) (by omega) hT3 hb3 (fun e n I4 he4 f4 => g0 e n I4 he4 (fB.trans f4)) (fun I4 e he4 f4 hb4 => ?_)⟩
            have := g1 I4 e he4 (fB.trans f4) (fun m' hm' => by
              rw [hb4 m' hm']
              show _ = nI (base' m' + (cq (ps len tx f (p' + 1)).1 m' + (if m = m' then 1 else 0)))
              congr 1
              omega)
            rw [show i + ((m, t, av, v) :: (ps len tx f (p' + 1)).1).length = i + 1 + (ps len tx f (p' + 1)).1.length by simp; omega] at this
            exact this
          · have l' : ¬ lit len tx 59 p' = true := fun z => l ((chr_lit (c := 59) (by omega) (by omega)).mpr z)
            have e2 : ps len tx (f + 1) p = ([(m, t, av, v)], some p') := by
              conv => lhs; unfold ps
              rw [he]
              simp only [if_neg hc, if_neg l']
            rw [e2] at g0
            rw [mR_9]
            exact ⟨fun _ => stop _ _ (g0 _ _ _ rfl fB), fun z => absurd z z10⟩
  refine key 10 0 0 I base (by omega) (by omega) hT hb h0 (fun I' e g1 g2 g3 => ?_)
  rw [Nat.zero_add]
  exact h1 I' e g1 g2 g3
end GO
