/-! the relation of the two states; plain calls -/
def tI (x : Int32) (n : Nat) : Int32 := if 0 ≤ x.toInt ∧ x.toInt < (n : Int) then 1 else 0
theorem tI_nI {j n : Nat} (h : j < n) (hn : n < 2 ^ 31) : tI (nI j) n = 1 := by
  unfold tI
  rw [nI_toInt (by omega), if_pos (by omega)]
theorem tI_cases (x : Int32) {n : Nat} (hn : n < 2 ^ 31) : tI x n = 0 ∨ ∃ j, j < n ∧ x = nI j ∧ tI x n = 1 := by
  rcases pk_ix x hn with h | h | ⟨j, hj, rfl⟩
  · refine Or.inl (if_neg ?_)
    have := Int32.lt_iff_toInt_lt.mp h
    rw [Int32.toInt_zero] at this
    omega
  · refine Or.inl (if_neg ?_)
    have := Int32.le_iff_toInt_le.mp h
    rw [nI_toInt hn] at this
    omega
  · exact Or.inr ⟨j, hj, rfl, tI_nI hj hn⟩
theorem cmp_lt (x y : Int64) : lg_cmp x y < 0 ↔ x.toInt < y.toInt := by
  unfold lg_cmp
  by_cases h : x > y
  · rw [if_pos h]
    have h1 : y.toInt < x.toInt := Int64.lt_iff_toInt_lt.mp h
    constructor
    · intro q; exact absurd q (by decide)
    · intro q; omega
  · rw [if_neg h]
    have h1 : ¬ y.toInt < x.toInt := fun q => h (Int64.lt_iff_toInt_lt.mpr q)
    by_cases h2 : x = y
    · rw [if_pos h2, h2]
      constructor
      · intro q; exact absurd q (by decide)
      · intro q; omega
    · rw [if_neg h2]
      have h3 : x.toInt ≠ y.toInt := fun q => h2 (Int64.toInt_inj.mp q)
      constructor
      · intro q; omega
      · intro q; decide
theorem cmp_gt (x y : Int64) : 0 < lg_cmp x y ↔ y.toInt < x.toInt := by
  unfold lg_cmp
  by_cases h : x > y
  · rw [if_pos h]
    have h1 : y.toInt < x.toInt := Int64.lt_iff_toInt_lt.mp h
    constructor
    · intro q; exact h1
    · intro q; decide
  · rw [if_neg h]
    have h1 : ¬ y.toInt < x.toInt := fun q => h (Int64.lt_iff_toInt_lt.mpr q)
    by_cases h2 : x = y
    · rw [if_pos h2]
      constructor
      · intro q; exact absurd q (by decide)
      · intro q; omega
    · rw [if_neg h2]
      constructor
      · intro q; exact absurd q (by decide)
      · intro q; omega
theorem in_eq (x y z : Int64) : D_X12_in x y z = some (if y.toInt ≤ x.toInt ∧ x.toInt ≤ z.toInt then 1 else 0) := by
  unfold D_X12_in
  by_cases h1 : x.toInt < y.toInt
  · rw [if_pos ((cmp_lt x y).mpr h1), if_neg (by omega)]
  · rw [if_neg (fun q => h1 ((cmp_lt x y).mp q))]
    by_cases h2 : z.toInt < x.toInt
    · rw [if_pos ((cmp_gt x z).mpr h2), if_neg (by omega)]
    · rw [if_neg (fun q => h2 ((cmp_gt x z).mp q)), if_pos (by omega)]
theorem in_0n (x : Int32) {n : Nat} (hn : n < 2 ^ 30) : D_X12_in x.toInt64 (0 : Int64) ((nI n - (1 : Int32)).toInt64) = some (tI x n) := by
  have e : ((nI n - (1 : Int32)).toInt64).toInt = (n : Int) - 1 := by
    rw [Int32.toInt_toInt64]
    exact pk_sub_toInt (b := 1) hn (by omega)
  rw [in_eq, Int32.toInt_toInt64, e, show ((0 : Int64)).toInt = 0 from rfl]
  unfold tI
  by_cases h : 0 ≤ x.toInt ∧ x.toInt < (n : Int)
  · rw [if_pos h, if_pos (by omega)]
  · rw [if_neg h, if_neg (by omega)]
theorem in_0l (x : Int32) (z : Int64) {n : Nat} (hz : z.toInt + 1 = (n : Int)) : D_X12_in x.toInt64 (0 : Int64) z = some (tI x n) := by
  rw [in_eq, Int32.toInt_toInt64, show ((0 : Int64)).toInt = 0 from rfl]
  unfold tI
  by_cases h : 0 ≤ x.toInt ∧ x.toInt < (n : Int)
  · rw [if_pos h, if_pos (by omega)]
  · rw [if_neg h, if_neg (by omega)]
theorem gb_tI {α : Type} {x : Int32} {n : Nat} {y : Option α} : gb (tI x n) y = y := by
  unfold tI
  split
  · exact gb_1
  · exact gb_0
theorem two_X (x : Int32) {n : Nat} (hn : n < 2 ^ 31) : (if x < 0 then some (0 : Int32) else if nI n ≤ x then some 0 else some 1) = some (tI x n) := by
  unfold tI
  by_cases h1 : x < 0
  · have := Int32.lt_iff_toInt_lt.mp h1
    rw [Int32.toInt_zero] at this
    rw [if_pos h1, if_neg (by omega)]
  · have q1 : 0 ≤ x.toInt := by
      have := Int32.not_lt.mp h1
      simpa using Int32.le_iff_toInt_le.mp this
    rw [if_neg h1]
    by_cases h2 : nI n ≤ x
    · have := Int32.le_iff_toInt_le.mp h2
      rw [nI_toInt hn] at this
      rw [if_pos h2, if_neg (by omega)]
    · have : ¬ (nI n).toInt ≤ x.toInt := fun q => h2 (Int32.le_iff_toInt_le.mpr q)
      rw [nI_toInt hn] at this
      rw [if_neg h2, if_pos (by omega)]
/-- a game, or none -/
def OnG (C P J R : Nat) : Prop := (C = 0 ∧ P = 0 ∧ J = 0 ∧ R = 0) ∨ (1 ≤ P ∧ P ≤ 3 ∧ 2 ≤ C ∧ C ≤ 6 ∧ 1 ≤ J ∧ J ≤ 3 ∧ R = C ^ P)
theorem OnG.le {C P J R : Nat} (h : OnG C P J R) : J ≤ 3 ∧ R ≤ 216 ∧ P ≤ 3 ∧ C ≤ 6 := by
  rcases h with h | h
  · omega
  · have := pow_le (C := C) (P := P) (by omega) (by omega)
    omega
theorem OnG.on {C P J R : Nat} (h : OnG C P J R) (hR : 0 < R) : 1 ≤ P ∧ P ≤ 3 ∧ 2 ≤ C ∧ C ≤ 6 ∧ 1 ≤ J ∧ J ≤ 3 ∧ R = C ^ P := by
  rcases h with h | h
  · omega
  · exact h
theorem OnG.two {C P J R : Nat} (h : OnG C P J R) (hR : 0 < R) : 2 ≤ R := by
  obtain ⟨h1, h2, h3, h4, h5, h6, h7⟩ := h.on hR
  have : C ^ 1 ≤ C ^ P := Nat.pow_le_pow_right (by omega) h1
  rw [Nat.pow_one] at this
  omega
def RPg (σ μ : St) : Prop := ∃ (np : Nat) (pg : Nat → Nat), np ≤ 12 ∧ σ 1 1 = nI np ∧ μ 31 1 = nI np ∧ ∀ j, j < np → σ 2 j = nI (pg j) ∧ μ 32 j = nI (pg j) ∧ 1 ≤ pg j ∧ pg j ≤ 126
def RGm (C P J R : Nat) (σ μ : St) : Prop := OnG C P J R ∧ σ 20 0 = nI P ∧ σ 20 1 = nI C ∧ σ 20 2 = nI R ∧ σ 0 9 = nI J ∧ μ 31 3 = nI P ∧ μ 31 4 = nI C ∧ μ 31 5 = nI R ∧ μ 31 6 = nI J ∧ (0 < R → TabX σ C P)
/-- a course: kinds, hidden row, what was shown and told; in the cells from b on, and in the reference's cells kc, sc -/
def Crs (b kc sc : Nat) (J R hid ns : Nat) (kd sr sj st : Nat → Nat) (σ μ : St) : Prop := ns ≤ 12 ∧ (0 < R → hid < R) ∧ σ b 4 = nI hid ∧ σ b 5 = nI ns ∧ (∀ j, j < J → kd j < 5 ∧ σ (b + 1) j = nI (kd j) ∧ μ kc j = nI (kd j)) ∧
  ∀ i, i < ns → sr i < R ∧ sj i < J ∧ st i ≤ 40 ∧ σ (b + 2) i = nI (sr i) ∧ σ (b + 3) i = nI (sj i) ∧ σ (b + 4) i = nI (st i) ∧ μ sc (3 * i) = nI (sr i) ∧ μ sc (3 * i + 1) = nI (sj i) ∧ μ sc (3 * i + 2) = nI (st i)
def Now (J R hid ns : Nat) (kd sr sj st : Nat → Nat) (σ μ : St) : Prop := Crs 10 33 34 J R hid ns kd sr sj st σ μ ∧ μ 31 8 = nI ns ∧ (R = 0 → μ 31 7 = -1) ∧ (0 < R → μ 31 7 = nI hid)
def RNow (J R : Nat) (σ μ : St) : Prop := ∃ (hid ns : Nat) (kd sr sj st : Nat → Nat), Now J R hid ns kd sr sj st σ μ
def RIm (J R gr : Nat) (σ μ : St) : Prop := (σ 0 10 = 0 ∧ (μ 31 21 = -1 ∨ ∃ kg, kg < gr ∧ μ 31 21 = nI kg)) ∨ (σ 0 10 = 1 ∧ 0 < R ∧ μ 31 21 = nI gr ∧ ∃ (hid ns : Nat) (kd sr sj st : Nat → Nat), Crs 15 39 40 J R hid ns kd sr sj st σ μ ∧ μ 31 22 = nI hid ∧ μ 31 23 = nI ns)
def RCt (gr : Nat) (σ μ : St) : Prop := ∃ bd ld pd tr : Nat, bd ≤ 24 ∧ ld ≤ 6 ∧ pd ≤ 9 ∧ σ 0 11 = nI gr ∧ μ 31 9 = nI gr ∧ σ 0 12 = nI bd ∧ μ 31 15 = nI bd ∧ σ 0 13 = nI ld ∧ μ 31 16 = nI ld ∧ σ 0 14 = nI pd ∧ μ 31 17 = nI pd ∧ σ 28 2 = nI tr ∧ tr ≤ pd * 5000 ∧ ∀ i, i < 961 → ∃ mk, mk ≤ tr ∧ σ 29 i = nI mk
def Rel (C P J R gr : Nat) (σ μ : St) : Prop := RPg σ μ ∧ RGm C P J R σ μ ∧ RNow J R σ μ ∧ RIm J R gr σ μ ∧ RCt gr σ μ
def RelE (n : Nat) (σ μ : St) : Prop := ∃ C P J R gr : Nat, gr ≤ n ∧ Rel C P J R gr σ μ
/-- both sides answer alike, and go on alike -/
def Ok2 (n : Nat) (x y : Option (Int32 × St)) : Prop := ∃ (r : Int32) (τ ν : St), x = some (r, τ) ∧ y = some (r, ν) ∧ RelE (n + 1) τ ν
theorem RelE.up {n : Nat} {σ μ : St} (h : RelE n σ μ) : RelE (n + 1) σ μ := by
  obtain ⟨C, P, J, R, gr, h1, h2⟩ := h
  exact ⟨C, P, J, R, gr, by omega, h2⟩
theorem isJudge_X {C P J R : Nat} {σ μ : St} (h : RGm C P J R σ μ) (x : Int32) : D_X11_isJudge σ x = some (tI x J) := by
  have l := h.1.le
  unfold D_X11_isJudge
  rw [h.2.2.2.2.1]
  exact two_X x (by omega)
theorem isRow_X {C P J R : Nat} {σ μ : St} (h : RGm C P J R σ μ) (x : Int32) : D_X11_isRow σ x = some (tI x R) := by
  have l := h.1.le
  unfold D_X11_isRow
  rw [h.2.2.2.1]
  exact two_X x (by omega)
theorem isJudge_M {C P J R : Nat} {σ μ : St} (h : RGm C P J R σ μ) (x : Int32) : D_X12_isJudge μ x = some (tI x J) := by
  have l := h.1.le
  unfold D_X12_isJudge
  rw [h.2.2.2.2.2.2.2.2.1, in_0n x (by omega), bp_s, gb_tI]
theorem isRow_M {C P J R : Nat} {σ μ : St} (h : RGm C P J R σ μ) (x : Int32) : D_X12_isRow μ x = some (tI x R) := by
  have l := h.1.le
  unfold D_X12_isRow
  rw [h.2.2.2.2.2.2.2.1, in_0n x (by omega), bp_s, gb_tI]
theorem isKind_X (x : Int32) : D_X11_isKind x = some (tI x 5) := two_X x (n := 5) (by omega)
theorem gameOn_X {C P J R : Nat} {σ μ : St} (h : RGm C P J R σ μ) : D_X11_isGameOn σ = some (if R = 0 then 0 else 1) := by
  have l := h.1.le
  unfold D_X11_isGameOn
  rw [h.2.2.2.1]
  by_cases e : R = 0
  · rw [e, if_pos (by decide), if_pos rfl]
  · rw [if_neg (nI_nle (by omega) (by omega)), if_neg e]
theorem lacks_M {C P J R : Nat} {σ μ : St} (h : RGm C P J R σ μ) : D_X12_lacks μ = some (if R = 0 then 1 else 0) := by
  have l := h.1.le
  unfold D_X12_lacks
  rw [h.2.2.2.2.2.2.2.1]
  by_cases e : R = 0
  · rw [e, if_pos (by decide), if_pos rfl]
  · rw [if_neg (nI_ne0 (by omega) (by omega)), if_neg e]
theorem judgeAt_X {J R hid ns : Nat} {kd sr sj st : Nat → Nat} {σ μ : St} (h : Now J R hid ns kd sr sj st σ μ) (hJ : J ≤ 3) {j : Nat} (hj : j < J) : D_X11_judgeAt σ (nI j) = some (kd j) := by
  obtain ⟨h1, h2, -⟩ := h.1.2.2.2.2.1 j hj
  unfold D_X11_judgeAt
  rw [gi_nI (by omega) (by omega), nI_clamp (by omega), show σ 11 j = nI (kd j) from h2, gi_nI h1 (by omega), nI_clamp (by omega)]
/-! letter, blank, strike, forget -/
theorem q_letter {n : Nat} {σ μ : St} (h : RelE n σ μ) (x : Int32) : Ok2 n (D_X11_letter σ x) (D_X12_letter μ x) := by
  have h0 := h
  obtain ⟨C, P, J, R, gr, hn, ⟨np, pg, p1, p2, p3, p4⟩, hG, hN, hI, hT⟩ := h
  unfold D_X11_letter D_X12_letter
  rw [in_eq, Int32.toInt_toInt64, show ((1 : Int64)).toInt = 1 from rfl, show ((126 : Int64)).toInt = 126 from rfl, bp_s]
  by_cases c1 : x < 1
  · have := Int32.lt_iff_toInt_lt.mp c1
    rw [show ((1 : Int32)).toInt = 1 from rfl] at this
    rw [if_pos c1, if_neg (show ¬ (1 ≤ x.toInt ∧ x.toInt ≤ 126) by omega), if_pos rfl]
    exact ⟨_, _, _, rfl, rfl, h0.up⟩
  · have c1' : ¬ x.toInt < 1 := fun q => c1 (Int32.lt_iff_toInt_lt.mpr q)
    rw [if_neg c1]
    by_cases c2 : x ≤ 126
    · have c2' := Int32.le_iff_toInt_le.mp c2
      rw [show ((126 : Int32)).toInt = 126 from rfl] at c2'
      rw [if_pos c2, if_pos (show (1 ≤ x.toInt ∧ x.toInt ≤ 126) by omega), if_neg (show ¬ (1 : Int32) = 0 by decide), p2, p3]
      by_cases c3 : np = 12
      · subst c3
        rw [if_neg (by decide), if_pos (by decide)]
        exact ⟨_, _, _, rfl, rfl, h0.up⟩
      · rw [if_pos (show nI np < (12 : Int32) from nI_lt (b := 12) (by omega) (by omega)), if_neg (show ¬ nI np = (12 : Int32) from fun q => c3 ((nI_eq (b := 12) (by omega) (by omega)).mp q))]
        unfold D_X3_append
        rw [p2, if_neg (show ¬ (12 : Int32) ≤ nI np from nI_ge (b := 12) (by omega) (by omega)), gi_nI (by omega) (by omega), bp_s, gi_nI (by omega) (by omega), nI_clamp (by omega), nI_1]
        obtain ⟨v, hv, rfl⟩ : ∃ v : Nat, v < 127 ∧ x = nI v := by
          rcases pk_ix x (n := 127) (by omega) with q | q | ⟨j, q1, q2⟩
          · have := Int32.lt_iff_toInt_lt.mp q
            rw [Int32.toInt_zero] at this
            omega
          · have := Int32.le_iff_toInt_le.mp q
            rw [nI_toInt (by omega)] at this
            omega
          · exact ⟨j, q1, q2⟩
        rw [nI_toInt (by omega)] at c1'
        refine ⟨_, _, _, rfl, rfl, C, P, J, R, gr, by omega, ⟨np + 1, fun j => if j = np then v else pg j, by omega, rfl, rfl, fun j hj => ?_⟩, hG, hN, hI, hT⟩
        show upd (σ 2) np (nI v) j = nI (if j = np then v else pg j) ∧ upd (μ 32) np (nI v) j = nI (if j = np then v else pg j) ∧ 1 ≤ (if j = np then v else pg j) ∧ (if j = np then v else pg j) ≤ 126
        by_cases e : j = np
        · subst e
          rw [upd_at, upd_at, if_pos rfl]
          exact ⟨rfl, rfl, by omega, by omega⟩
        · rw [upd_ne e, upd_ne e, if_neg e]
          exact p4 j (by omega)
    · have c2' : ¬ x.toInt ≤ 126 := fun q => c2 (Int32.le_iff_toInt_le.mpr q)
      rw [if_neg c2, if_neg (show ¬ (1 ≤ x.toInt ∧ x.toInt ≤ 126) by omega), if_pos rfl]
      exact ⟨_, _, _, rfl, rfl, h0.up⟩
theorem q_blank {n : Nat} {σ μ : St} (h : RelE n σ μ) : Ok2 n (D_X11_blank σ) (D_X12_blank μ) := by
  obtain ⟨C, P, J, R, gr, hn, ⟨np, pg, p1, p2, p3, p4⟩, hG, hN, hI, hT⟩ := h
  unfold D_X11_blank D_X12_blank
  rw [p2, p3]
  exact ⟨_, _, _, rfl, rfl, C, P, J, R, gr, by omega, ⟨0, pg, by omega, rfl, rfl, fun j hj => absurd hj (Nat.not_lt_zero j)⟩, hG, hN, hI, hT⟩
theorem q_strike {n : Nat} {σ μ : St} (h : RelE n σ μ) : Ok2 n (D_X11_strike σ) (D_X12_strike μ) := by
  have h0 := h
  obtain ⟨C, P, J, R, gr, hn, hp, hG, ⟨hid, ns, kd, sr, sj, st, ⟨k1, k2, k3, k4, k5, k6⟩, n2, n3, n4⟩, hI, hT⟩ := h
  unfold D_X11_strike D_X12_strike
  rw [k4, n2]
  by_cases e : ns = 0
  · rw [e, if_pos (by decide), if_pos (by decide)]
    exact ⟨_, _, _, rfl, rfl, h0.up⟩
  · rw [if_neg (nI_ne0 (by omega) (by omega)), if_neg (nI_ne0 (by omega) (by omega)), nI_lit1, pk_sub (by omega)]
    exact ⟨_, _, _, rfl, rfl, C, P, J, R, gr, by omega, hp, hG, ⟨hid, ns - 1, kd, sr, sj, st, ⟨by omega, k2, k3, rfl, k5, fun i hi => k6 i (by omega)⟩, rfl, n3, n4⟩, hI, hT⟩
theorem q_forget {n : Nat} {σ μ : St} (h : RelE n σ μ) : Ok2 n (D_X11_forget σ) (D_X12_forget μ) := by
  obtain ⟨C, P, J, R, gr, hn, hp, hG, ⟨hid, ns, kd, sr, sj, st, ⟨k1, k2, k3, k4, k5, k6⟩, n2, n3, n4⟩, hI, hT⟩ := h
  unfold D_X11_forget D_X12_forget
  rw [k4, n2]
  exact ⟨_, _, _, rfl, rfl, C, P, J, R, gr, by omega, hp, hG, ⟨hid, 0, kd, sr, sj, st, ⟨by omega, k2, k3, rfl, k5, fun i hi => absurd hi (Nat.not_lt_zero i)⟩, rfl, n3, n4⟩, hI, hT⟩
