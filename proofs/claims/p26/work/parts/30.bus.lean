/-! A BUS OF THE CLASS AS ONE ROW OF NUMBERS -/
def slotO (o s : Nat) : Option Nat :=
  if 238 ≤ o ∨ 16 ≤ s then none
  else if o = 0 then (if s = 5 then some 4 else if s = 6 then some 0 else if s = 7 then some 5 else if s = 8 then some 7 else if s = 9 then some 6 else if s = 10 then some 8 else if s = 11 then some 9 else if s = 12 then some 10 else if s = 13 then some 11 else if s = 14 then some 12 else none)
  else if o = 1 then (if s < 3 then some (1 + s) else none)
  else if o = 2 then (if s < 8 then some (13 + s) else none)
  else if o < 6 then none
  else if o < 18 then (if (o - 6) % 3 = 0 then (if s = 1 then some (21 + 11 * ((o - 6) / 3) + 7) else if s = 2 then some (2361 + (o - 6) / 3) else if s = 3 then some (21 + 11 * ((o - 6) / 3) + 8) else if s = 4 then some (21 + 11 * ((o - 6) / 3) + 9) else if s = 5 then some (21 + 11 * ((o - 6) / 3) + 10) else if s = 6 then some (2365 + (o - 6) / 3) else if s = 7 then some (2369 + (o - 6) / 3) else none)
    else if (o - 6) % 3 = 1 then (if s = 1 then some (21 + 11 * ((o - 6) / 3) + 0) else none)
    else (if s < 6 then some (21 + 11 * ((o - 6) / 3) + 1 + s) else none))
  else if o < 38 then (if (o - 18) % 5 = 1 then (if s < 16 then some (65 + 24 * ((o - 18) / 5) + s) else none)
    else if (o - 18) % 5 = 2 then (if s < 3 then some (65 + 24 * ((o - 18) / 5) + 16 + s) else none)
    else if (o - 18) % 5 = 3 then (if s = 1 then some (65 + 24 * ((o - 18) / 5) + 19) else none)
    else if (o - 18) % 5 = 4 then (if s < 4 then some (65 + 24 * ((o - 18) / 5) + 20 + s) else if s < 6 then some (2373 + 2 * ((o - 18) / 5) + (s - 4)) else none)
    else none)
  else if o < 238 then (if s < 8 then some (161 + 11 * (o - 38) + s) else if s = 8 then some (161 + 11 * (o - 38) + 10) else if s = 9 then some (161 + 11 * (o - 38) + 8) else if s = 10 then some (161 + 11 * (o - 38) + 9) else none)
  else none
/-- where a slot stands: object, place -/
def cof (k : Nat) : Nat × Nat :=
  if k = 0 then (0, 6) else if k < 4 then (1, k - 1) else if k = 4 then (0, 5) else if k = 5 then (0, 7) else if k = 6 then (0, 9) else if k = 7 then (0, 8) else if k < 13 then (0, k + 2)
  else if k < 21 then (2, k - 13)
  else if k < 65 then (if (k - 21) % 11 = 0 then (7 + 3 * ((k - 21) / 11), 1) else if (k - 21) % 11 < 7 then (8 + 3 * ((k - 21) / 11), (k - 21) % 11 - 1) else if (k - 21) % 11 = 7 then (6 + 3 * ((k - 21) / 11), 1) else (6 + 3 * ((k - 21) / 11), (k - 21) % 11 - 5))
  else if k < 161 then (if (k - 65) % 24 < 16 then (19 + 5 * ((k - 65) / 24), (k - 65) % 24) else if (k - 65) % 24 < 19 then (20 + 5 * ((k - 65) / 24), (k - 65) % 24 - 16) else if (k - 65) % 24 = 19 then (21 + 5 * ((k - 65) / 24), 1) else (22 + 5 * ((k - 65) / 24), (k - 65) % 24 - 20))
  else if k < 2361 then (if (k - 161) % 11 < 8 then (38 + (k - 161) / 11, (k - 161) % 11) else if (k - 161) % 11 = 8 then (38 + (k - 161) / 11, 9) else if (k - 161) % 11 = 9 then (38 + (k - 161) / 11, 10) else (38 + (k - 161) / 11, 8))
  else if k < 2365 then (6 + 3 * (k - 2361), 2) else if k < 2369 then (6 + 3 * (k - 2365), 6) else if k < 2373 then (6 + 3 * (k - 2369), 7)
  else (22 + 5 * ((k - 2373) / 2), 4 + (k - 2373) % 2)
theorem cof_tab : ∀ o, o < 238 → ∀ s, s < 16 → ((slotO o s).all (fun k => decide (cof k = (o, s)) && decide (k < 2381))) = true := by decide +kernel
theorem slotO_lt {o s k : Nat} (h : slotO o s = some k) : o < 238 ∧ s < 16 := by
  by_cases hc : 238 ≤ o ∨ 16 ≤ s
  · unfold slotO at h
    rw [if_pos hc] at h
    cases h
  · omega
theorem cof_of {o s k : Nat} (h : slotO o s = some k) : cof k = (o, s) ∧ k < 2381 := by
  obtain ⟨h1, h2⟩ := slotO_lt h
  have := cof_tab o h1 s h2
  rw [h] at this
  simpa using this
theorem slotO_inj {o s o' s' k : Nat} (h : slotO o s = some k) (h' : slotO o' s' = some k) : o' = o ∧ s' = s := by
  have a := (cof_of h).1
  have b := (cof_of h').1
  rw [a] at b
  simp only [Prod.mk.injEq] at b
  exact ⟨b.1.symm, b.2.symm⟩
theorem cof_tab2 : ∀ k, k < 2381 → slotO (cof k).1 (cof k).2 = some k := by decide +kernel
def stB (J : MI) (b : Nat) (ρ : Sr) : MI := fun a s => if b ≤ a then (match slotO (a - b) s with
  | some k => ρ k
  | none => J a s) else J a s
def rowB (I : MI) (b : Nat) : Sr := fun k => I (b + (cof k).1) (cof k).2
theorem stB_at {J : MI} {b o s k a : Nat} {ρ : Sr} (h : slotO o s = some k) (ha : a = b + o) : stB J b ρ a s = ρ k := by
  subst ha
  unfold stB
  rw [if_pos (Nat.le_add_right _ _), Nat.add_sub_cancel_left, h]
theorem up_at {J : MI} {b o s k a : Nat} {ρ : Sr} {x : Int32} (h : slotO o s = some k) (ha : a = b + o) : upI (stB J b ρ) a s x = stB J b (su ρ k x) := by
  subst ha
  funext c j
  by_cases hc : c = b + o ∧ j = s
  · obtain ⟨rfl, rfl⟩ := hc
    rw [stB_at h rfl, su_s]
    simp [upI]
  · have e1 : upI (stB J b ρ) (b + o) s x c j = stB J b ρ c j := by simp only [upI, hc, if_false]
    rw [e1]
    unfold stB
    split
    · rename_i hb
      cases hs : slotO (c - b) j with
      | none => rfl
      | some k' =>
        have hk : k' ≠ k := by
          intro e
          subst e
          obtain ⟨q1, q2⟩ := slotO_inj h hs
          exact hc ⟨by omega, q2⟩
        show ρ k' = su ρ k x k'
        rw [su_n hk]
    · rfl
theorem stB_o {J : MI} {b a s : Nat} {ρ : Sr} (h : a < b ∨ b + 238 ≤ a) : stB J b ρ a s = J a s := by
  unfold stB
  split
  · cases hs : slotO (a - b) s with
    | none => rfl
    | some k => have := (slotO_lt hs).1; omega
  · rfl
theorem up_ob {J : MI} {b a s : Nat} {ρ : Sr} {x : Int32} (h : a < b ∨ b + 238 ≤ a) : upI (stB J b ρ) a s x = stB (upI J a s x) b ρ := by
  funext c j
  by_cases hc : c = a ∧ j = s
  · obtain ⟨rfl, rfl⟩ := hc
    rw [stB_o h]
    simp [upI]
  · have e1 : upI (stB J b ρ) a s x c j = stB J b ρ c j := by simp only [upI, hc, if_false]
    rw [e1]
    unfold stB
    have e2 : upI J a s x c j = J c j := by simp only [upI, hc, if_false]
    rw [e2]
theorem stB_self (I : MI) (b : Nat) : stB I b (rowB I b) = I := by
  funext c j
  unfold stB
  split
  · rename_i hb
    cases hs : slotO (c - b) j with
    | none => rfl
    | some k =>
      show rowB I b k = I c j
      unfold rowB
      rw [(cof_of hs).1]
      show I (b + (c - b)) j = _
      rw [Nat.add_sub_cancel' hb]
  · rfl
theorem rowB_stB {J : MI} {b k : Nat} {ρ : Sr} (h : k < 2381) : rowB (stB J b ρ) b k = ρ k := stB_at (cof_tab2 k h) rfl
theorem cof_lt {k : Nat} (h : k < 2381) : (cof k).1 < 238 := (slotO_lt (cof_tab2 k h)).1
theorem rowB_o {J : MI} {b c k : Nat} {ρ : Sr} (h : c + 238 ≤ b ∨ b + 238 ≤ c) (hk : k < 2381) : rowB (stB J b ρ) c k = rowB J c k := by
  have := cof_lt hk
  exact stB_o (by omega)
/-! where the slots stand -/
theorem so_q : slotO 0 5 = some 4 := by decide
theorem so_tk : slotO 0 6 = some 0 := by decide
theorem so_lt : slotO 0 7 = some 5 := by decide
theorem so_tm : slotO 0 8 = some 7 := by decide
theorem so_tt : slotO 0 9 = some 6 := by decide
theorem so_at : slotO 0 10 = some 8 := by decide
theorem so_qt : slotO 0 11 = some 9 := by decide
theorem so_rt : slotO 0 12 = some 10 := by decide
theorem so_id : slotO 0 13 = some 11 := by decide
theorem so_ov : slotO 0 14 = some 12 := by decide
theorem so_set : ∀ k, k < 3 → slotO 1 k = some (1 + k) := by decide +kernel
theorem so_lent : ∀ k, k < 8 → slotO 2 k = some (13 + k) := by decide +kernel
theorem so_m1 : ∀ m, m < 4 → slotO (6 + 3 * m) 1 = some (21 + 11 * m + 7) := by decide +kernel
theorem so_m2 : ∀ m, m < 4 → slotO (6 + 3 * m) 2 = some (2361 + m) := by decide +kernel
theorem so_m3 : ∀ m, m < 4 → slotO (6 + 3 * m) 3 = some (21 + 11 * m + 8) := by decide +kernel
theorem so_m4 : ∀ m, m < 4 → slotO (6 + 3 * m) 4 = some (21 + 11 * m + 9) := by decide +kernel
theorem so_m5 : ∀ m, m < 4 → slotO (6 + 3 * m) 5 = some (21 + 11 * m + 10) := by decide +kernel
theorem so_m6 : ∀ m, m < 4 → slotO (6 + 3 * m) 6 = some (2365 + m) := by decide +kernel
theorem so_m7 : ∀ m, m < 4 → slotO (6 + 3 * m) 7 = some (2369 + m) := by decide +kernel
theorem so_ml : ∀ m, m < 4 → slotO (6 + 3 * m + 1) 1 = some (21 + 11 * m + 0) := by decide +kernel
theorem so_mr : ∀ m, m < 4 → ∀ j, j < 6 → slotO (6 + 3 * m + 1 + 1) j = some (21 + 11 * m + 1 + j) := by decide +kernel
theorem so_tc : ∀ t, t < 4 → ∀ j, j < 16 → slotO (18 + 5 * t + 1) j = some (65 + 24 * t + j) := by decide +kernel
theorem so_tn : ∀ t, t < 4 → ∀ j, j < 3 → slotO (18 + 5 * t + 2) j = some (65 + 24 * t + 16 + j) := by decide +kernel
theorem so_tl : ∀ t, t < 4 → slotO (18 + 5 * t + 3) 1 = some (65 + 24 * t + 19) := by decide +kernel
theorem so_tr : ∀ t, t < 4 → ∀ j, j < 4 → slotO (18 + 5 * t + 3 + 1) j = some (65 + 24 * t + 20 + j) := by decide +kernel
theorem so_tr2 : ∀ t, t < 4 → ∀ j, j < 6 → 4 ≤ j → slotO (18 + 5 * t + 3 + 1) j = some (2373 + 2 * t + (j - 4)) := by decide +kernel
theorem so_w : ∀ q, q < 200 → ∀ w, w < 8 → slotO (38 + q) w = some (161 + 11 * q + w) := by decide +kernel
theorem so_w8 : ∀ q, q < 200 → slotO (38 + q) 8 = some (161 + 11 * q + 10) := by decide +kernel
theorem so_w9 : ∀ q, q < 200 → slotO (38 + q) 9 = some (161 + 11 * q + 8) := by decide +kernel
theorem so_wa : ∀ q, q < 200 → slotO (38 + q) 10 = some (161 + 11 * q + 9) := by decide +kernel
section BUSW
variable {J : MI} {b : Nat} {ρ : Sr}
theorem r_b_q : stB J b ρ (b) 5 = ρ (4) := stB_at so_q (by omega)
theorem u_b_q {x : Int32} : upI (stB J b ρ) (b) 5 x = stB J b (su ρ (4) x) := up_at so_q (by omega)
theorem r_b_tk : stB J b ρ (b) 6 = ρ (0) := stB_at so_tk (by omega)
theorem u_b_tk {x : Int32} : upI (stB J b ρ) (b) 6 x = stB J b (su ρ (0) x) := up_at so_tk (by omega)
theorem r_b_lt : stB J b ρ (b) 7 = ρ (5) := stB_at so_lt (by omega)
theorem u_b_lt {x : Int32} : upI (stB J b ρ) (b) 7 x = stB J b (su ρ (5) x) := up_at so_lt (by omega)
theorem r_b_tm : stB J b ρ (b) 8 = ρ (7) := stB_at so_tm (by omega)
theorem u_b_tm {x : Int32} : upI (stB J b ρ) (b) 8 x = stB J b (su ρ (7) x) := up_at so_tm (by omega)
theorem r_b_tt : stB J b ρ (b) 9 = ρ (6) := stB_at so_tt (by omega)
theorem u_b_tt {x : Int32} : upI (stB J b ρ) (b) 9 x = stB J b (su ρ (6) x) := up_at so_tt (by omega)
theorem r_b_at : stB J b ρ (b) 10 = ρ (8) := stB_at so_at (by omega)
theorem u_b_at {x : Int32} : upI (stB J b ρ) (b) 10 x = stB J b (su ρ (8) x) := up_at so_at (by omega)
theorem r_b_qt : stB J b ρ (b) 11 = ρ (9) := stB_at so_qt (by omega)
theorem u_b_qt {x : Int32} : upI (stB J b ρ) (b) 11 x = stB J b (su ρ (9) x) := up_at so_qt (by omega)
theorem r_b_rt : stB J b ρ (b) 12 = ρ (10) := stB_at so_rt (by omega)
theorem u_b_rt {x : Int32} : upI (stB J b ρ) (b) 12 x = stB J b (su ρ (10) x) := up_at so_rt (by omega)
theorem r_b_id : stB J b ρ (b) 13 = ρ (11) := stB_at so_id (by omega)
theorem u_b_id {x : Int32} : upI (stB J b ρ) (b) 13 x = stB J b (su ρ (11) x) := up_at so_id (by omega)
theorem r_b_ov : stB J b ρ (b) 14 = ρ (12) := stB_at so_ov (by omega)
theorem u_b_ov {x : Int32} : upI (stB J b ρ) (b) 14 x = stB J b (su ρ (12) x) := up_at so_ov (by omega)
theorem r_set {k : Nat} (hk : k < 3) : stB J b ρ (b + 1) k = ρ (1 + k) := stB_at (so_set k hk) (by omega)
theorem u_set {k : Nat} (hk : k < 3) {x : Int32} : upI (stB J b ρ) (b + 1) k x = stB J b (su ρ (1 + k) x) := up_at (so_set k hk) (by omega)
theorem r_set0 : stB J b ρ (b + 1) 0 = ρ (1) := stB_at (so_set 0 (by decide)) (by omega)
theorem u_set0 {x : Int32} : upI (stB J b ρ) (b + 1) 0 x = stB J b (su ρ (1) x) := up_at (so_set 0 (by decide)) (by omega)
theorem r_set1 : stB J b ρ (b + 1) 1 = ρ (2) := stB_at (so_set 1 (by decide)) (by omega)
theorem u_set1 {x : Int32} : upI (stB J b ρ) (b + 1) 1 x = stB J b (su ρ (2) x) := up_at (so_set 1 (by decide)) (by omega)
theorem r_set2 : stB J b ρ (b + 1) 2 = ρ (3) := stB_at (so_set 2 (by decide)) (by omega)
theorem u_set2 {x : Int32} : upI (stB J b ρ) (b + 1) 2 x = stB J b (su ρ (3) x) := up_at (so_set 2 (by decide)) (by omega)
theorem r_lent {k : Nat} (hk : k < 8) : stB J b ρ (b + 2) k = ρ (13 + k) := stB_at (so_lent k hk) (by omega)
theorem u_lent {k : Nat} (hk : k < 8) {x : Int32} : upI (stB J b ρ) (b + 2) k x = stB J b (su ρ (13 + k) x) := up_at (so_lent k hk) (by omega)
theorem r_m1 {m : Nat} (hm : m < 4) : stB J b ρ (b + 6 + 3 * m) 1 = ρ (21 + 11 * m + 7) := stB_at (so_m1 m hm) (by omega)
theorem u_m1 {m : Nat} (hm : m < 4) {x : Int32} : upI (stB J b ρ) (b + 6 + 3 * m) 1 x = stB J b (su ρ (21 + 11 * m + 7) x) := up_at (so_m1 m hm) (by omega)
theorem r_m2 {m : Nat} (hm : m < 4) : stB J b ρ (b + 6 + 3 * m) 2 = ρ (2361 + m) := stB_at (so_m2 m hm) (by omega)
theorem u_m2 {m : Nat} (hm : m < 4) {x : Int32} : upI (stB J b ρ) (b + 6 + 3 * m) 2 x = stB J b (su ρ (2361 + m) x) := up_at (so_m2 m hm) (by omega)
theorem r_m3 {m : Nat} (hm : m < 4) : stB J b ρ (b + 6 + 3 * m) 3 = ρ (21 + 11 * m + 8) := stB_at (so_m3 m hm) (by omega)
theorem u_m3 {m : Nat} (hm : m < 4) {x : Int32} : upI (stB J b ρ) (b + 6 + 3 * m) 3 x = stB J b (su ρ (21 + 11 * m + 8) x) := up_at (so_m3 m hm) (by omega)
theorem r_m4 {m : Nat} (hm : m < 4) : stB J b ρ (b + 6 + 3 * m) 4 = ρ (21 + 11 * m + 9) := stB_at (so_m4 m hm) (by omega)
theorem u_m4 {m : Nat} (hm : m < 4) {x : Int32} : upI (stB J b ρ) (b + 6 + 3 * m) 4 x = stB J b (su ρ (21 + 11 * m + 9) x) := up_at (so_m4 m hm) (by omega)
theorem r_m5 {m : Nat} (hm : m < 4) : stB J b ρ (b + 6 + 3 * m) 5 = ρ (21 + 11 * m + 10) := stB_at (so_m5 m hm) (by omega)
theorem u_m5 {m : Nat} (hm : m < 4) {x : Int32} : upI (stB J b ρ) (b + 6 + 3 * m) 5 x = stB J b (su ρ (21 + 11 * m + 10) x) := up_at (so_m5 m hm) (by omega)
theorem r_m6 {m : Nat} (hm : m < 4) : stB J b ρ (b + 6 + 3 * m) 6 = ρ (2365 + m) := stB_at (so_m6 m hm) (by omega)
theorem u_m6 {m : Nat} (hm : m < 4) {x : Int32} : upI (stB J b ρ) (b + 6 + 3 * m) 6 x = stB J b (su ρ (2365 + m) x) := up_at (so_m6 m hm) (by omega)
theorem r_m7 {m : Nat} (hm : m < 4) : stB J b ρ (b + 6 + 3 * m) 7 = ρ (2369 + m) := stB_at (so_m7 m hm) (by omega)
theorem u_m7 {m : Nat} (hm : m < 4) {x : Int32} : upI (stB J b ρ) (b + 6 + 3 * m) 7 x = stB J b (su ρ (2369 + m) x) := up_at (so_m7 m hm) (by omega)
theorem r_ml {m : Nat} (hm : m < 4) : stB J b ρ (b + 6 + 3 * m + 1) 1 = ρ (21 + 11 * m + 0) := stB_at (so_ml m hm) (by omega)
theorem u_ml {m : Nat} (hm : m < 4) {x : Int32} : upI (stB J b ρ) (b + 6 + 3 * m + 1) 1 x = stB J b (su ρ (21 + 11 * m + 0) x) := up_at (so_ml m hm) (by omega)
theorem r_mr {m j : Nat} (hm : m < 4) (hj : j < 6) : stB J b ρ (b + 6 + 3 * m + 1 + 1) j = ρ (21 + 11 * m + 1 + j) := stB_at (so_mr m hm j hj) (by omega)
theorem u_mr {m j : Nat} (hm : m < 4) (hj : j < 6) {x : Int32} : upI (stB J b ρ) (b + 6 + 3 * m + 1 + 1) j x = stB J b (su ρ (21 + 11 * m + 1 + j) x) := up_at (so_mr m hm j hj) (by omega)
theorem r_tc {t j : Nat} (ht : t < 4) (hj : j < 16) : stB J b ρ (b + 18 + 5 * t + 1) j = ρ (65 + 24 * t + j) := stB_at (so_tc t ht j hj) (by omega)
theorem u_tc {t j : Nat} (ht : t < 4) (hj : j < 16) {x : Int32} : upI (stB J b ρ) (b + 18 + 5 * t + 1) j x = stB J b (su ρ (65 + 24 * t + j) x) := up_at (so_tc t ht j hj) (by omega)
theorem r_tn {t j : Nat} (ht : t < 4) (hj : j < 3) : stB J b ρ (b + 18 + 5 * t + 2) j = ρ (65 + 24 * t + 16 + j) := stB_at (so_tn t ht j hj) (by omega)
theorem u_tn {t j : Nat} (ht : t < 4) (hj : j < 3) {x : Int32} : upI (stB J b ρ) (b + 18 + 5 * t + 2) j x = stB J b (su ρ (65 + 24 * t + 16 + j) x) := up_at (so_tn t ht j hj) (by omega)
theorem r_tn0 {t : Nat} (ht : t < 4) : stB J b ρ (b + 18 + 5 * t + 2) 0 = ρ (65 + 24 * t + 16) := stB_at (so_tn t ht 0 (by decide)) (by omega)
theorem u_tn0 {t : Nat} (ht : t < 4) {x : Int32} : upI (stB J b ρ) (b + 18 + 5 * t + 2) 0 x = stB J b (su ρ (65 + 24 * t + 16) x) := up_at (so_tn t ht 0 (by decide)) (by omega)
theorem r_tn1 {t : Nat} (ht : t < 4) : stB J b ρ (b + 18 + 5 * t + 2) 1 = ρ (65 + 24 * t + 17) := stB_at (so_tn t ht 1 (by decide)) (by omega)
theorem u_tn1 {t : Nat} (ht : t < 4) {x : Int32} : upI (stB J b ρ) (b + 18 + 5 * t + 2) 1 x = stB J b (su ρ (65 + 24 * t + 17) x) := up_at (so_tn t ht 1 (by decide)) (by omega)
theorem r_tn2 {t : Nat} (ht : t < 4) : stB J b ρ (b + 18 + 5 * t + 2) 2 = ρ (65 + 24 * t + 18) := stB_at (so_tn t ht 2 (by decide)) (by omega)
theorem u_tn2 {t : Nat} (ht : t < 4) {x : Int32} : upI (stB J b ρ) (b + 18 + 5 * t + 2) 2 x = stB J b (su ρ (65 + 24 * t + 18) x) := up_at (so_tn t ht 2 (by decide)) (by omega)
theorem r_tl {t : Nat} (ht : t < 4) : stB J b ρ (b + 18 + 5 * t + 3) 1 = ρ (65 + 24 * t + 19) := stB_at (so_tl t ht) (by omega)
theorem u_tl {t : Nat} (ht : t < 4) {x : Int32} : upI (stB J b ρ) (b + 18 + 5 * t + 3) 1 x = stB J b (su ρ (65 + 24 * t + 19) x) := up_at (so_tl t ht) (by omega)
theorem r_tr {t j : Nat} (ht : t < 4) (hj : j < 4) : stB J b ρ (b + 18 + 5 * t + 3 + 1) j = ρ (65 + 24 * t + 20 + j) := stB_at (so_tr t ht j hj) (by omega)
theorem u_tr {t j : Nat} (ht : t < 4) (hj : j < 4) {x : Int32} : upI (stB J b ρ) (b + 18 + 5 * t + 3 + 1) j x = stB J b (su ρ (65 + 24 * t + 20 + j) x) := up_at (so_tr t ht j hj) (by omega)
theorem r_w0 {q : Nat} (hq : q < 200) : stB J b ρ (b + 38 + q) 0 = ρ (161 + 11 * q + 0) := stB_at (so_w q hq 0 (by decide)) (by omega)
theorem u_w0 {q : Nat} (hq : q < 200) {x : Int32} : upI (stB J b ρ) (b + 38 + q) 0 x = stB J b (su ρ (161 + 11 * q + 0) x) := up_at (so_w q hq 0 (by decide)) (by omega)
theorem r_w1 {q : Nat} (hq : q < 200) : stB J b ρ (b + 38 + q) 1 = ρ (161 + 11 * q + 1) := stB_at (so_w q hq 1 (by decide)) (by omega)
theorem u_w1 {q : Nat} (hq : q < 200) {x : Int32} : upI (stB J b ρ) (b + 38 + q) 1 x = stB J b (su ρ (161 + 11 * q + 1) x) := up_at (so_w q hq 1 (by decide)) (by omega)
theorem r_w2 {q : Nat} (hq : q < 200) : stB J b ρ (b + 38 + q) 2 = ρ (161 + 11 * q + 2) := stB_at (so_w q hq 2 (by decide)) (by omega)
theorem u_w2 {q : Nat} (hq : q < 200) {x : Int32} : upI (stB J b ρ) (b + 38 + q) 2 x = stB J b (su ρ (161 + 11 * q + 2) x) := up_at (so_w q hq 2 (by decide)) (by omega)
theorem r_w3 {q : Nat} (hq : q < 200) : stB J b ρ (b + 38 + q) 3 = ρ (161 + 11 * q + 3) := stB_at (so_w q hq 3 (by decide)) (by omega)
theorem u_w3 {q : Nat} (hq : q < 200) {x : Int32} : upI (stB J b ρ) (b + 38 + q) 3 x = stB J b (su ρ (161 + 11 * q + 3) x) := up_at (so_w q hq 3 (by decide)) (by omega)
theorem r_w4 {q : Nat} (hq : q < 200) : stB J b ρ (b + 38 + q) 4 = ρ (161 + 11 * q + 4) := stB_at (so_w q hq 4 (by decide)) (by omega)
theorem u_w4 {q : Nat} (hq : q < 200) {x : Int32} : upI (stB J b ρ) (b + 38 + q) 4 x = stB J b (su ρ (161 + 11 * q + 4) x) := up_at (so_w q hq 4 (by decide)) (by omega)
theorem r_w5 {q : Nat} (hq : q < 200) : stB J b ρ (b + 38 + q) 5 = ρ (161 + 11 * q + 5) := stB_at (so_w q hq 5 (by decide)) (by omega)
theorem u_w5 {q : Nat} (hq : q < 200) {x : Int32} : upI (stB J b ρ) (b + 38 + q) 5 x = stB J b (su ρ (161 + 11 * q + 5) x) := up_at (so_w q hq 5 (by decide)) (by omega)
theorem r_w6 {q : Nat} (hq : q < 200) : stB J b ρ (b + 38 + q) 6 = ρ (161 + 11 * q + 6) := stB_at (so_w q hq 6 (by decide)) (by omega)
theorem u_w6 {q : Nat} (hq : q < 200) {x : Int32} : upI (stB J b ρ) (b + 38 + q) 6 x = stB J b (su ρ (161 + 11 * q + 6) x) := up_at (so_w q hq 6 (by decide)) (by omega)
theorem r_w7 {q : Nat} (hq : q < 200) : stB J b ρ (b + 38 + q) 7 = ρ (161 + 11 * q + 7) := stB_at (so_w q hq 7 (by decide)) (by omega)
theorem u_w7 {q : Nat} (hq : q < 200) {x : Int32} : upI (stB J b ρ) (b + 38 + q) 7 x = stB J b (su ρ (161 + 11 * q + 7) x) := up_at (so_w q hq 7 (by decide)) (by omega)
theorem r_w8 {q : Nat} (hq : q < 200) : stB J b ρ (b + 38 + q) 8 = ρ (161 + 11 * q + 10) := stB_at (so_w8 q hq) (by omega)
theorem u_w8 {q : Nat} (hq : q < 200) {x : Int32} : upI (stB J b ρ) (b + 38 + q) 8 x = stB J b (su ρ (161 + 11 * q + 10) x) := up_at (so_w8 q hq) (by omega)
theorem r_w9 {q : Nat} (hq : q < 200) : stB J b ρ (b + 38 + q) 9 = ρ (161 + 11 * q + 8) := stB_at (so_w9 q hq) (by omega)
theorem u_w9 {q : Nat} (hq : q < 200) {x : Int32} : upI (stB J b ρ) (b + 38 + q) 9 x = stB J b (su ρ (161 + 11 * q + 8) x) := up_at (so_w9 q hq) (by omega)
theorem r_wa {q : Nat} (hq : q < 200) : stB J b ρ (b + 38 + q) 10 = ρ (161 + 11 * q + 9) := stB_at (so_wa q hq) (by omega)
theorem u_wa {q : Nat} (hq : q < 200) {x : Int32} : upI (stB J b ρ) (b + 38 + q) 10 x = stB J b (su ρ (161 + 11 * q + 9) x) := up_at (so_wa q hq) (by omega)
end BUSW
