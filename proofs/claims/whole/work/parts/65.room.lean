def roomP (σ : Sr) (L : List Qn) : Prop := ix (σ 4) + L.length ≤ 200 ∧ ∀ m, m < 4 → loN σ m + cq L m ≤ 6
theorem cq_le (L : List Qn) (m : Nat) : cq L m ≤ L.length := by
  induction L with
  | nil => exact Nat.le_refl _
  | cons q l ih =>
    show cq l m + (if q.1 = m then 1 else 0) ≤ l.length + 1
    split <;> omega
section RM
variable {K : MK} {R : MR} {I J : MI} {t r a : Nat} {S : St} {L : List Qn}
theorem c_foundOf {Q : Int32 → MI → Prop} {m : Nat} (hX : IsText K R a) (h3 : I a 3 = nI L.length) (hL : L.length ≤ 10) (hq : FQ I a L) (hml : m < 4) (hLm : ∀ q, q ∈ L → q.1 < 4) (h : Q (nI (cq L m)) I) : w_X4_foundOf K R a (nI m) I Q := by
  unfold w_X4_foundOf w_X4_foundOf_b4
  intro X hXX
  have key : ∀ d j k, j + d = L.length → k + cq (L.drop j) m = cq L m → X (nI k) (nI j) I := by
    intro d
    induction d with
    | zero =>
      intro j k hj hk
      refine hXX _ _ _ ?_
      have hjl : L.length ≤ j := by omega
      rw [List.drop_eq_nil_of_le hjl] at hk
      have hk2 : k = cq L m := hk
      unfold w_X4_foundOf_b4_body w_X4_foundOf_b40
      rw [h3]
      refine ⟨hX, fun _ => by rw [hk2]; exact h, fun z => absurd ((nI_leI (by omega) (by omega)).mpr hjl) z⟩
    | succ d ih =>
      intro j k hj hk
      refine hXX _ _ _ ?_
      have hjl : j < L.length := by omega
      rw [List.drop_eq_getElem_cons hjl] at hk
      have hk2 : k + (cq (L.drop (j + 1)) m + (if L[j].1 = m then 1 else 0)) = cq L m := hk
      obtain ⟨e0, -⟩ := hq j L[j].1 L[j].2.1 L[j].2.2.1 L[j].2.2.2 (by rw [List.getElem?_eq_getElem hjl])
      have hm4 := hLm L[j] (List.getElem_mem hjl)
      unfold w_X4_foundOf_b4_body w_X4_foundOf_b40 w_X4_foundOf_b34
      rw [h3, ix_nI (by omega), e0]
      refine ⟨hX, fun z => absurd ((nI_leI (by omega) (by omega)).mp z) (by omega), fun _ => ⟨fun z => absurd ((nI_leI (a := 10) (by omega) (by omega)).mp z) (by omega), fun _ => ⟨vp_in_nI (by omega) (by decide), fun c => ?_, fun c => ?_⟩⟩⟩
      · rw [nr_1]
        refine ih (j + 1) k (by omega) ?_
        rw [if_neg (fun z => c (by rw [z]))] at hk2
        omega
      · rw [nr_1, nr_1]
        refine ih (j + 1) (k + 1) (by omega) ?_
        rw [if_pos (nI_inj (by omega) (by omega) c)] at hk2
        omega
  exact key L.length 0 0 (by omega) (by simp)
theorem c_roomT {Q : Int32 → MI → Prop} (hT : IsTag K R t) (hS : InvS S.σ) (hX : IsText K R (t + 716)) (h5 : I (t + 1) 5 = nI (ix (S.σ 4))) (hrow : ∀ m, m < 4 → I (t + 1 + 6 + 3 * m + 1) 1 = nI (loN S.σ m)) (h3 : I (t + 716) 3 = nI L.length) (hL : L.length ≤ 10) (hq : FQ I (t + 716) L) (hLm : ∀ q, q ∈ L → q.1 < 4) (h1 : roomP S.σ L → Q 1 I) (h0 : ¬ roomP S.σ L → Q 0 I) : w_X6_hasRoomForText K R t I Q := by
  have hB := hT.o0
  obtain ⟨hA4, hA⟩ := hS.A4
  unfold w_X6_hasRoomForText w_X6_hasRoomForText_b25
  rw [h5, h3, nI_add]
  refine ⟨hT, fun c => ?_, fun c => h0 (fun z => c ((nI_leI (b := 200) (by omega) (by omega)).mpr z.1))⟩
  have hc := (nI_leI (b := 200) (by omega) (by omega)).mp c
  intro X hXX
  have key : ∀ d m, m + d = 4 → (∀ j, j < m → loN S.σ j + cq L j ≤ 6) → X (nI m) I := by
    intro d
    induction d with
    | zero =>
      intro m hm hj
      refine hXX _ _ ?_
      have hm4 : m = 4 := by omega
      subst hm4
      unfold w_X6_hasRoomForText_b25_body
      exact ⟨fun _ => h1 ⟨hc, hj⟩, fun z => absurd (show (4 : Int32) ≤ nI 4 by decide) z⟩
    | succ d ih =>
      intro m hm hj
      refine hXX _ _ ?_
      have hm4 : m < 4 := by omega
      have hl6 := (hS.rows hm4).1
      have hcl := cq_le L m
      unfold w_X6_hasRoomForText_b25_body w_X6_hasRoomForText_b64
      refine ⟨fun z => absurd ((nI_leI (a := 4) (by omega) (by omega)).mp z) (by omega), fun _ => ⟨hT, c_masterAt hB hm4 ⟨fun z => (by cases z), fun r4 e4 => ?_⟩⟩⟩
      cases e4
      refine ⟨hB.p2 hm4, c_foundOf hX h3 hL hq hm4 hLm ?_⟩
      rw [hrow m hm4, nI_add, nr_1]
      refine ⟨fun z => ih (m + 1) (by omega) (fun j hj2 => ?_), fun z => h0 (fun q => z ((nI_leI (b := 6) (by omega) (by omega)).mpr (q.2 m hm4)))⟩
      by_cases e : j = m
      · subst e; exact (nI_leI (b := 6) (by omega) (by omega)).mp z
      · exact hj j (by omega)
  exact key 4 0 rfl (fun j hj => by omega)
end RM
/-- all the questions put, one behind the other -/
def pf : Sr → List Qn → Sr
  | σ, [] => σ
  | σ, q :: l => pf (putS σ q.1 (ix (σ 4)) (loN σ q.1) (nI q.2.1) (nI q.2.2.1) q.2.2.2) l
theorem room_step {σ : Sr} {q : Qn} {l : List Qn} (hS : InvS σ) (h : roomP σ (q :: l)) (hm : q.1 < 4) : ix (σ 4) < 200 ∧ loN σ q.1 < 6 ∧ roomP (putS σ q.1 (ix (σ 4)) (loN σ q.1) (nI q.2.1) (nI q.2.2.1) q.2.2.2) l := by
  obtain ⟨h1, h2⟩ := h
  have hA : ix (σ 4) < 200 := by
    have : ix (σ 4) + (l.length + 1) ≤ 200 := h1
    omega
  have hq := h2 q.1 hm
  have hq' : loN σ q.1 + (cq l q.1 + (if q.1 = q.1 then 1 else 0)) ≤ 6 := hq
  rw [if_pos rfl] at hq'
  refine ⟨hA, by omega, ?_, fun m hm' => ?_⟩
  · have s4 : putS σ q.1 (ix (σ 4)) (loN σ q.1) (nI q.2.1) (nI q.2.2.1) q.2.2.2 4 = nI (ix (σ 4) + 1) := by unfold putS; rw [su_s]
    rw [ix_eq s4 (by omega)]
    have : ix (σ 4) + (l.length + 1) ≤ 200 := h1
    omega
  · have hm2 : loN σ m + (cq l m + (if q.1 = m then 1 else 0)) ≤ 6 := h2 m hm'
    by_cases e : q.1 = m
    · subst e
      have sl : putS σ q.1 (ix (σ 4)) (loN σ q.1) (nI q.2.1) (nI q.2.2.1) q.2.2.2 (21 + 11 * q.1 + 0) = nI (loN σ q.1 + 1) := by unfold putS; rw [su_n (by omega), su_s]
      have : loN (putS σ q.1 (ix (σ 4)) (loN σ q.1) (nI q.2.1) (nI q.2.2.1) q.2.2.2) q.1 = loN σ q.1 + 1 := ix_eq sl (by omega)
      rw [this]
      omega
    · have : loN (putS σ q.1 (ix (σ 4)) (loN σ q.1) (nI q.2.1) (nI q.2.2.1) q.2.2.2) m = loN σ m := by
        have hlq : loN σ q.1 ≤ 6 := (hS.rows hm).1
        generalize loN σ q.1 = Lq at hlq
        unfold loN
        rw [putS_n (by omega) (by omega)]
      rw [this]
      rw [if_neg e] at hm2
      omega
