/-! THE STATE AS ONE ROW OF NUMBERS: what a tick does, as functions -/
abbrev Sr : Type := Nat → Int32
def su (σ : Sr) (k : Nat) (x : Int32) : Sr := fun j => if j = k then x else σ j
theorem su_s (σ : Sr) (k : Nat) (x : Int32) : su σ k x k = x := by simp [su]
theorem su_n {σ : Sr} {k j : Nat} {x : Int32} (h : j ≠ k) : su σ k x j = σ j := by simp [su, h]
def stS (I : MI) (r : Nat) (σ : Sr) : MI := fun a k => if a = r + 1 then σ k else I a k
theorem stS_s {I : MI} {r : Nat} {σ : Sr} {k : Nat} : stS I r σ (r + 1) k = σ k := by simp [stS]
theorem stS_o {I : MI} {r a : Nat} {σ : Sr} {k : Nat} (h : a ≠ r + 1) : stS I r σ a k = I a k := by simp [stS, h]
theorem up_s {I : MI} {r : Nat} {σ : Sr} {k : Nat} {x : Int32} : upI (stS I r σ) (r + 1) k x = stS I r (su σ k x) := by
  funext a j
  by_cases h : a = r + 1
  · subst h
    by_cases hj : j = k <;> simp [upI, stS, su, hj]
  · simp [upI, stS, h]
theorem up_o {I : MI} {r a : Nat} {σ : Sr} {k : Nat} {x : Int32} (h : a ≠ r + 1) : upI (stS I r σ) a k x = stS (upI I a k x) r σ := by
  funext c j
  by_cases hc : c = r + 1
  · subst hc
    simp [upI, stS, Ne.symm h]
  · by_cases h2 : c = a ∧ j = k <;> simp [upI, stS, hc, h2, h]
theorem stS_self (I : MI) (r : Nat) : stS I r (I (r + 1)) = I := by
  funext a k
  by_cases h : a = r + 1
  · subst h; simp [stS]
  · simp [stS, h]
theorem stS_stS (I : MI) (r : Nat) (σ τ : Sr) : stS (stS I r σ) r τ = stS I r τ := by
  funext a k
  by_cases h : a = r + 1 <;> simp [stS, h]
theorem ix_nI {k : Nat} (h : k < 2 ^ 31) : ix (nI k) = k := nI_clamp h
theorem vpT {k n : Nat} (h : k < n) (hn : n < 2 ^ 31) : vp_in (nI k) n = True := eq_true (vp_in_nI h hn)
theorem lit_nI (w : Nat) : (OfNat.ofNat w : Int32) = nI w := rfl
theorem of_l {K : MK} {R : MR} {I : MI} {Q : Int32 → MI → Prop} {q w : Nat} : w_X7_of K R (nI q) (OfNat.ofNat w) I Q = Q (nI (161 + 11 * q + w)) I := by
  unfold w_X7_of
  rw [show (161 : Int32) = nI 161 from rfl, show (11 : Int32) = nI 11 from rfl, lit_nI w, pk_mul, nI_add, nI_add]
theorem ofM_l {K : MK} {R : MR} {I : MI} {Q : Int32 → MI → Prop} {q w : Nat} : w_X7_ofMaster K R (nI q) (OfNat.ofNat w) I Q = Q (nI (21 + 11 * q + w)) I := by
  unfold w_X7_ofMaster
  rw [show (21 : Int32) = nI 21 from rfl, show (11 : Int32) = nI 11 from rfl, lit_nI w, pk_mul, nI_add, nI_add]
theorem ofT_l {K : MK} {R : MR} {I : MI} {Q : Int32 → MI → Prop} {q w : Nat} : w_X7_ofTarget K R (nI q) (OfNat.ofNat w) I Q = Q (nI (65 + 24 * q + w)) I := by
  unfold w_X7_ofTarget
  rw [show (65 : Int32) = nI 65 from rfl, show (24 : Int32) = nI 24 from rfl, lit_nI w, pk_mul, nI_add, nI_add]
theorem of_n {K : MK} {R : MR} {I : MI} {Q : Int32 → MI → Prop} {q w : Nat} : w_X7_of K R (nI q) (nI w) I Q = Q (nI (161 + 11 * q + w)) I := of_l
theorem ofM_n {K : MK} {R : MR} {I : MI} {Q : Int32 → MI → Prop} {q w : Nat} : w_X7_ofMaster K R (nI q) (nI w) I Q = Q (nI (21 + 11 * q + w)) I := ofM_l
theorem ofT_n {K : MK} {R : MR} {I : MI} {Q : Int32 → MI → Prop} {q w : Nat} : w_X7_ofTarget K R (nI q) (nI w) I Q = Q (nI (65 + 24 * q + w)) I := ofT_l
theorem nI_addl (w k : Nat) : (OfNat.ofNat w : Int32) + nI k = nI (w + k) := nI_add w k
theorem nI_addr (w k : Nat) : nI k + (OfNat.ofNat w : Int32) = nI (k + w) := nI_add k w
theorem nI_leI' {a b : Nat} (ha : a < 2 ^ 31) (hb : b < 2 ^ 31) : (nI a ≤ nI b) = (a ≤ b) := propext (nI_leI ha hb)
theorem nI_ltI' {a b : Nat} (ha : a < 2 ^ 31) (hb : b < 2 ^ 31) : (nI a < nI b) = (a < b) := propext (nI_ltI ha hb)
theorem nI_eqI' {a b : Nat} (ha : a < 2 ^ 31) (hb : b < 2 ^ 31) : (nI a = nI b) = (a = b) := propext (nI_eq ha hb)
theorem nI_ne5 {k : Nat} (h : k < 2 ^ 31) : nI k ≠ -5 := by
  intro e
  have h1 := nI_toInt h
  rw [e] at h1
  have : (-5 : Int32).toInt = -5 := by decide
  omega
theorem nI_mod4 {k : Nat} (h : k < 2 ^ 31) : nI k - nI k / (4 : Int32) * (4 : Int32) = nI (k % 4) := pk_rem h (by decide) (by decide)
theorem of_l0 {K : MK} {R : MR} {I : MI} {Q : Int32 → MI → Prop} {q : Nat} : w_X7_of K R (nI q) (0 : Int32) I Q = Q (nI (161 + 11 * q + 0)) I := of_l
theorem ofM_l0 {K : MK} {R : MR} {I : MI} {Q : Int32 → MI → Prop} {q : Nat} : w_X7_ofMaster K R (nI q) (0 : Int32) I Q = Q (nI (21 + 11 * q + 0)) I := ofM_l
theorem of_l1 {K : MK} {R : MR} {I : MI} {Q : Int32 → MI → Prop} {q : Nat} : w_X7_of K R (nI q) (1 : Int32) I Q = Q (nI (161 + 11 * q + 1)) I := of_l
theorem ofM_l1 {K : MK} {R : MR} {I : MI} {Q : Int32 → MI → Prop} {q : Nat} : w_X7_ofMaster K R (nI q) (1 : Int32) I Q = Q (nI (21 + 11 * q + 1)) I := ofM_l
theorem of_l2 {K : MK} {R : MR} {I : MI} {Q : Int32 → MI → Prop} {q : Nat} : w_X7_of K R (nI q) (2 : Int32) I Q = Q (nI (161 + 11 * q + 2)) I := of_l
theorem ofM_l2 {K : MK} {R : MR} {I : MI} {Q : Int32 → MI → Prop} {q : Nat} : w_X7_ofMaster K R (nI q) (2 : Int32) I Q = Q (nI (21 + 11 * q + 2)) I := ofM_l
theorem of_l3 {K : MK} {R : MR} {I : MI} {Q : Int32 → MI → Prop} {q : Nat} : w_X7_of K R (nI q) (3 : Int32) I Q = Q (nI (161 + 11 * q + 3)) I := of_l
theorem ofM_l3 {K : MK} {R : MR} {I : MI} {Q : Int32 → MI → Prop} {q : Nat} : w_X7_ofMaster K R (nI q) (3 : Int32) I Q = Q (nI (21 + 11 * q + 3)) I := ofM_l
theorem of_l4 {K : MK} {R : MR} {I : MI} {Q : Int32 → MI → Prop} {q : Nat} : w_X7_of K R (nI q) (4 : Int32) I Q = Q (nI (161 + 11 * q + 4)) I := of_l
theorem ofM_l4 {K : MK} {R : MR} {I : MI} {Q : Int32 → MI → Prop} {q : Nat} : w_X7_ofMaster K R (nI q) (4 : Int32) I Q = Q (nI (21 + 11 * q + 4)) I := ofM_l
theorem of_l5 {K : MK} {R : MR} {I : MI} {Q : Int32 → MI → Prop} {q : Nat} : w_X7_of K R (nI q) (5 : Int32) I Q = Q (nI (161 + 11 * q + 5)) I := of_l
theorem ofM_l5 {K : MK} {R : MR} {I : MI} {Q : Int32 → MI → Prop} {q : Nat} : w_X7_ofMaster K R (nI q) (5 : Int32) I Q = Q (nI (21 + 11 * q + 5)) I := ofM_l
theorem of_l6 {K : MK} {R : MR} {I : MI} {Q : Int32 → MI → Prop} {q : Nat} : w_X7_of K R (nI q) (6 : Int32) I Q = Q (nI (161 + 11 * q + 6)) I := of_l
theorem ofM_l6 {K : MK} {R : MR} {I : MI} {Q : Int32 → MI → Prop} {q : Nat} : w_X7_ofMaster K R (nI q) (6 : Int32) I Q = Q (nI (21 + 11 * q + 6)) I := ofM_l
theorem of_l7 {K : MK} {R : MR} {I : MI} {Q : Int32 → MI → Prop} {q : Nat} : w_X7_of K R (nI q) (7 : Int32) I Q = Q (nI (161 + 11 * q + 7)) I := of_l
theorem ofM_l7 {K : MK} {R : MR} {I : MI} {Q : Int32 → MI → Prop} {q : Nat} : w_X7_ofMaster K R (nI q) (7 : Int32) I Q = Q (nI (21 + 11 * q + 7)) I := ofM_l
theorem of_l8 {K : MK} {R : MR} {I : MI} {Q : Int32 → MI → Prop} {q : Nat} : w_X7_of K R (nI q) (8 : Int32) I Q = Q (nI (161 + 11 * q + 8)) I := of_l
theorem ofM_l8 {K : MK} {R : MR} {I : MI} {Q : Int32 → MI → Prop} {q : Nat} : w_X7_ofMaster K R (nI q) (8 : Int32) I Q = Q (nI (21 + 11 * q + 8)) I := ofM_l
theorem of_l9 {K : MK} {R : MR} {I : MI} {Q : Int32 → MI → Prop} {q : Nat} : w_X7_of K R (nI q) (9 : Int32) I Q = Q (nI (161 + 11 * q + 9)) I := of_l
theorem ofM_l9 {K : MK} {R : MR} {I : MI} {Q : Int32 → MI → Prop} {q : Nat} : w_X7_ofMaster K R (nI q) (9 : Int32) I Q = Q (nI (21 + 11 * q + 9)) I := ofM_l
theorem of_l10 {K : MK} {R : MR} {I : MI} {Q : Int32 → MI → Prop} {q : Nat} : w_X7_of K R (nI q) (10 : Int32) I Q = Q (nI (161 + 11 * q + 10)) I := of_l
theorem ofM_l10 {K : MK} {R : MR} {I : MI} {Q : Int32 → MI → Prop} {q : Nat} : w_X7_ofMaster K R (nI q) (10 : Int32) I Q = Q (nI (21 + 11 * q + 10)) I := ofM_l
theorem ofT_l16 {K : MK} {R : MR} {I : MI} {Q : Int32 → MI → Prop} {q : Nat} : w_X7_ofTarget K R (nI q) (16 : Int32) I Q = Q (nI (65 + 24 * q + 16)) I := ofT_l
theorem ofT_l17 {K : MK} {R : MR} {I : MI} {Q : Int32 → MI → Prop} {q : Nat} : w_X7_ofTarget K R (nI q) (17 : Int32) I Q = Q (nI (65 + 24 * q + 17)) I := ofT_l
theorem ofT_l18 {K : MK} {R : MR} {I : MI} {Q : Int32 → MI → Prop} {q : Nat} : w_X7_ofTarget K R (nI q) (18 : Int32) I Q = Q (nI (65 + 24 * q + 18)) I := ofT_l
theorem ofT_l19 {K : MK} {R : MR} {I : MI} {Q : Int32 → MI → Prop} {q : Nat} : w_X7_ofTarget K R (nI q) (19 : Int32) I Q = Q (nI (65 + 24 * q + 19)) I := ofT_l
theorem ofT_l20 {K : MK} {R : MR} {I : MI} {Q : Int32 → MI → Prop} {q : Nat} : w_X7_ofTarget K R (nI q) (20 : Int32) I Q = Q (nI (65 + 24 * q + 20)) I := ofT_l
theorem nl_1 (k : Nat) : (1 : Int32) + nI k = nI (1 + k) := nI_add 1 k
theorem nl_8 (k : Nat) : (8 : Int32) + nI k = nI (8 + k) := nI_add 8 k
theorem nl_13 (k : Nat) : (13 : Int32) + nI k = nI (13 + k) := nI_add 13 k
theorem nl_16 (k : Nat) : (16 : Int32) + nI k = nI (16 + k) := nI_add 16 k
theorem nl_20 (k : Nat) : (20 : Int32) + nI k = nI (20 + k) := nI_add 20 k
theorem nl_2361 (k : Nat) : (2361 : Int32) + nI k = nI (2361 + k) := nI_add 2361 k
theorem nr_1 (k : Nat) : nI k + (1 : Int32) = nI (k + 1) := nI_add k 1
theorem ll_0 {k : Nat} (h : k < 2 ^ 31) : ((0 : Int32) ≤ nI k) = (0 ≤ k) := nI_leI' (a := 0) (by decide) h
theorem lr_0 {k : Nat} (h : k < 2 ^ 31) : (nI k ≤ (0 : Int32)) = (k ≤ 0) := nI_leI' (b := 0) h (by decide)
theorem el_0 {k : Nat} (h : k < 2 ^ 31) : (nI k = (0 : Int32)) = (k = 0) := nI_eqI' (b := 0) h (by decide)
theorem ll_1 {k : Nat} (h : k < 2 ^ 31) : ((1 : Int32) ≤ nI k) = (1 ≤ k) := nI_leI' (a := 1) (by decide) h
theorem lr_1 {k : Nat} (h : k < 2 ^ 31) : (nI k ≤ (1 : Int32)) = (k ≤ 1) := nI_leI' (b := 1) h (by decide)
theorem el_1 {k : Nat} (h : k < 2 ^ 31) : (nI k = (1 : Int32)) = (k = 1) := nI_eqI' (b := 1) h (by decide)
theorem ll_2 {k : Nat} (h : k < 2 ^ 31) : ((2 : Int32) ≤ nI k) = (2 ≤ k) := nI_leI' (a := 2) (by decide) h
theorem lr_2 {k : Nat} (h : k < 2 ^ 31) : (nI k ≤ (2 : Int32)) = (k ≤ 2) := nI_leI' (b := 2) h (by decide)
theorem el_2 {k : Nat} (h : k < 2 ^ 31) : (nI k = (2 : Int32)) = (k = 2) := nI_eqI' (b := 2) h (by decide)
theorem ll_3 {k : Nat} (h : k < 2 ^ 31) : ((3 : Int32) ≤ nI k) = (3 ≤ k) := nI_leI' (a := 3) (by decide) h
theorem lr_3 {k : Nat} (h : k < 2 ^ 31) : (nI k ≤ (3 : Int32)) = (k ≤ 3) := nI_leI' (b := 3) h (by decide)
theorem el_3 {k : Nat} (h : k < 2 ^ 31) : (nI k = (3 : Int32)) = (k = 3) := nI_eqI' (b := 3) h (by decide)
theorem ll_4 {k : Nat} (h : k < 2 ^ 31) : ((4 : Int32) ≤ nI k) = (4 ≤ k) := nI_leI' (a := 4) (by decide) h
theorem lr_4 {k : Nat} (h : k < 2 ^ 31) : (nI k ≤ (4 : Int32)) = (k ≤ 4) := nI_leI' (b := 4) h (by decide)
theorem el_4 {k : Nat} (h : k < 2 ^ 31) : (nI k = (4 : Int32)) = (k = 4) := nI_eqI' (b := 4) h (by decide)
theorem ll_6 {k : Nat} (h : k < 2 ^ 31) : ((6 : Int32) ≤ nI k) = (6 ≤ k) := nI_leI' (a := 6) (by decide) h
theorem lr_6 {k : Nat} (h : k < 2 ^ 31) : (nI k ≤ (6 : Int32)) = (k ≤ 6) := nI_leI' (b := 6) h (by decide)
theorem el_6 {k : Nat} (h : k < 2 ^ 31) : (nI k = (6 : Int32)) = (k = 6) := nI_eqI' (b := 6) h (by decide)
theorem ll_8 {k : Nat} (h : k < 2 ^ 31) : ((8 : Int32) ≤ nI k) = (8 ≤ k) := nI_leI' (a := 8) (by decide) h
theorem lr_8 {k : Nat} (h : k < 2 ^ 31) : (nI k ≤ (8 : Int32)) = (k ≤ 8) := nI_leI' (b := 8) h (by decide)
theorem el_8 {k : Nat} (h : k < 2 ^ 31) : (nI k = (8 : Int32)) = (k = 8) := nI_eqI' (b := 8) h (by decide)
theorem ll_10 {k : Nat} (h : k < 2 ^ 31) : ((10 : Int32) ≤ nI k) = (10 ≤ k) := nI_leI' (a := 10) (by decide) h
theorem lr_10 {k : Nat} (h : k < 2 ^ 31) : (nI k ≤ (10 : Int32)) = (k ≤ 10) := nI_leI' (b := 10) h (by decide)
theorem el_10 {k : Nat} (h : k < 2 ^ 31) : (nI k = (10 : Int32)) = (k = 10) := nI_eqI' (b := 10) h (by decide)
theorem ll_60 {k : Nat} (h : k < 2 ^ 31) : ((60 : Int32) ≤ nI k) = (60 ≤ k) := nI_leI' (a := 60) (by decide) h
theorem lr_60 {k : Nat} (h : k < 2 ^ 31) : (nI k ≤ (60 : Int32)) = (k ≤ 60) := nI_leI' (b := 60) h (by decide)
theorem el_60 {k : Nat} (h : k < 2 ^ 31) : (nI k = (60 : Int32)) = (k = 60) := nI_eqI' (b := 60) h (by decide)
theorem ll_200 {k : Nat} (h : k < 2 ^ 31) : ((200 : Int32) ≤ nI k) = (200 ≤ k) := nI_leI' (a := 200) (by decide) h
theorem lr_200 {k : Nat} (h : k < 2 ^ 31) : (nI k ≤ (200 : Int32)) = (k ≤ 200) := nI_leI' (b := 200) h (by decide)
theorem el_200 {k : Nat} (h : k < 2 ^ 31) : (nI k = (200 : Int32)) = (k = 200) := nI_eqI' (b := 200) h (by decide)
theorem ll_999 {k : Nat} (h : k < 2 ^ 31) : ((999 : Int32) ≤ nI k) = (999 ≤ k) := nI_leI' (a := 999) (by decide) h
theorem lr_999 {k : Nat} (h : k < 2 ^ 31) : (nI k ≤ (999 : Int32)) = (k ≤ 999) := nI_leI' (b := 999) h (by decide)
theorem el_999 {k : Nat} (h : k < 2 ^ 31) : (nI k = (999 : Int32)) = (k = 999) := nI_eqI' (b := 999) h (by decide)
theorem ll_2361 {k : Nat} (h : k < 2 ^ 31) : ((2361 : Int32) ≤ nI k) = (2361 ≤ k) := nI_leI' (a := 2361) (by decide) h
theorem lr_2361 {k : Nat} (h : k < 2 ^ 31) : (nI k ≤ (2361 : Int32)) = (k ≤ 2361) := nI_leI' (b := 2361) h (by decide)
theorem el_2361 {k : Nat} (h : k < 2 ^ 31) : (nI k = (2361 : Int32)) = (k = 2361) := nI_eqI' (b := 2361) h (by decide)
theorem ll_7083 {k : Nat} (h : k < 2 ^ 31) : ((7083 : Int32) ≤ nI k) = (7083 ≤ k) := nI_leI' (a := 7083) (by decide) h
theorem lr_7083 {k : Nat} (h : k < 2 ^ 31) : (nI k ≤ (7083 : Int32)) = (k ≤ 7083) := nI_leI' (b := 7083) h (by decide)
theorem el_7083 {k : Nat} (h : k < 2 ^ 31) : (nI k = (7083 : Int32)) = (k = 7083) := nI_eqI' (b := 7083) h (by decide)
/-- in(v, low, high) -/
theorem ref_in {K : MK} {R : MR} {I : MI} {Q : Int32 → MI → Prop} {v lo hi : Int32} (h1 : lo ≤ v → v ≤ hi → Q 1 I) (h2 : ¬ (lo ≤ v ∧ v ≤ hi) → Q 0 I) : w_X7_in K R v lo hi I Q := by
  unfold w_X7_in w_X7_in_b14 w_X7_in_b15
  refine ⟨fun c => ⟨bz0, h2 fun h => ?_⟩, fun c => ⟨fun d => ⟨bz0, h2 fun h => ?_⟩, fun d => ⟨bz1, h1 (Int32.not_lt.mp c) (Int32.not_lt.mp d)⟩⟩⟩
  · exact absurd h.1 (Int32.not_le.mpr c)
  · exact absurd h.2 (Int32.not_le.mpr d)
theorem le_nI {x : Int32} {n : Nat} (h0 : (0 : Int32) ≤ x) (h1 : x ≤ nI n) (hn : n < 2 ^ 31) : ∃ j : Nat, j ≤ n ∧ x = nI j := nI_of2 (nI_toInt hn) (Int32.not_lt.mpr h0) h1
theorem ref_isPort {K : MK} {R : MR} {I : MI} {Q : Int32 → MI → Prop} {p : Int32} (h1 : ∀ m, m < 4 → p = nI m → Q 1 I) (h2 : (∀ m, m < 4 → p ≠ nI m) → Q 0 I) : w_X7_isPort K R p I Q := by
  unfold w_X7_isPort
  refine ref_in (fun a b => ?_) (fun h => ?_)
  · obtain ⟨j, hj, e⟩ := le_nI (n := 3) a b (by decide)
    exact ⟨bz1, h1 j (by omega) e⟩
  · refine ⟨bz0, h2 fun m hm e => h ?_⟩
    subst e
    exact ⟨nI_pos' (by omega), (nI_leI (a := m) (b := 3) (by omega) (by decide)).mpr (by omega)⟩
/-! the functions -/
def Tg_ (σ : Sr) : Nat := ix (σ 1)
def Aq (σ : Sr) : Nat := ix (σ 4)
def mS (m w : Nat) : Nat := 21 + 11 * m + w
def tS (t w : Nat) : Nat := 65 + 24 * t + w
def qS (q w : Nat) : Nat := 161 + 11 * q + w
def freeO (σ : Sr) : Option Nat := (List.range (Tg_ σ)).find? (fun k => σ (13 + k) == -5)
def oI (o : Option Nat) : Int32 := match o with
  | none => -5
  | some k => nI k
def cnt (p : Nat → Bool) : Nat → Nat
  | 0 => 0
  | n + 1 => cnt p n + (if p n = true then 1 else 0)
def heldBy (σ : Sr) (m : Nat) (k : Nat) : Bool := σ (13 + k) != -5 && σ (161 + 11 * ix (σ (13 + k)) + 0) == nI m
def holdsN (σ : Sr) (m : Nat) : Nat := cnt (heldBy σ m) (Tg_ σ)
/-- what is to hold of a row of numbers -/
def InvT (σ : Sr) : Prop := ∃ T : Nat, σ 1 = nI T ∧ 1 ≤ T ∧ T ≤ 8
def InvA (σ : Sr) : Prop := ∃ A : Nat, σ 4 = nI A ∧ A ≤ 200
theorem find_none {p : Nat → Bool} {n : Nat} (h : ∀ j, j < n → p j = false) : (List.range n).find? p = none := by
  rw [List.find?_eq_none]
  intro x hx
  rw [h x (List.mem_range.mp hx)]
  decide
theorem find_some {p : Nat → Bool} {n k : Nat} (hk : k < n) (hp : p k = true) (h : ∀ j, j < k → p j = false) : (List.range n).find? p = some k := by
  rw [List.find?_range_eq_some]
  exact ⟨hp, List.mem_range.mpr hk, fun j hj => by rw [h j hj]; rfl⟩
section REF
variable {K : MK} {R : MR} {I : MI} {r : Nat} {σ : Sr}
theorem ref_freeTag {Q : Int32 → MI → Prop} (hM : IsModel K R r) (hT : InvT σ) (h : Q (oI (freeO σ)) (stS I r σ)) : w_X7_freeTag K R r (stS I r σ) Q := by
  obtain ⟨T, hT, -, hT8⟩ := hT
  have hTg : Tg_ σ = T := by unfold Tg_; rw [hT, ix_nI (by omega)]
  unfold w_X7_freeTag w_X7_freeTag_b2
  intro X hX
  have key : ∀ d k, k + d = T → (∀ j, j < k → (σ (13 + j) == -5) = false) → X (nI k) (stS I r σ) := by
    intro d
    induction d with
    | zero =>
      intro k hk hj
      refine hX _ _ ?_
      unfold w_X7_freeTag_b2_body
      simp (disch := omega) only [stS_s, hT, nI_leI', show T ≤ k by omega, not_true, false_implies, true_implies, and_true]
      refine ⟨hM, ?_⟩
      have : freeO σ = none := by unfold freeO; rw [hTg]; exact find_none (fun j h => hj j (by omega))
      rw [this] at h
      exact h
    | succ d ih =>
      intro k hk hj
      refine hX _ _ ?_
      unfold w_X7_freeTag_b2_body
      simp (disch := omega) only [stS_s, hT, nI_leI', show ¬ T ≤ k by omega, not_false_iff, false_implies, true_implies, true_and, nl_13, nr_1, ix_nI, vpT]
      refine ⟨hM, fun c => ih (k + 1) (by omega) (fun j h2 => ?_), fun c => ?_⟩
      · rcases Nat.lt_succ_iff_lt_or_eq.mp h2 with h3 | h3
        · exact hj j h3
        · subst h3; simpa using c
      · have : freeO σ = some k := by unfold freeO; rw [hTg]; exact find_some (by omega) (by simpa using c) hj
        rw [this] at h
        exact h
  exact key T 0 (by omega) (fun j h => absurd h (by omega))
end REF
