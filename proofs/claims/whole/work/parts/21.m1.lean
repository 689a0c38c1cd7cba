/-! what a judge tells, on the reference's side -/
def sumb (f : Nat → Nat) : Nat → Nat
  | 0 => 0
  | n + 1 => sumb f n + f n
theorem sumb_congr {f g : Nat → Nat} {n : Nat} (h : ∀ k, k < n → f k = g k) : sumb f n = sumb g n := by
  induction n with
  | zero => rfl
  | succ n ih => unfold sumb; rw [ih (fun k hk => h k (by omega)), h n (by omega)]
theorem sumb_le {f g : Nat → Nat} {n : Nat} (h : ∀ k, k < n → f k ≤ g k) : sumb f n ≤ sumb g n := by
  induction n with
  | zero => exact Nat.le_refl 0
  | succ n ih => unfold sumb; have := ih (fun k hk => h k (by omega)); have := h n (by omega); omega
theorem sumb_add (f g : Nat → Nat) (n : Nat) : sumb (fun k => f k + g k) n = sumb f n + sumb g n := by
  induction n with
  | zero => rfl
  | succ n ih => unfold sumb; rw [ih]; omega
theorem sumb_zero (n : Nat) : sumb (fun _ => 0) n = 0 := by
  induction n with
  | zero => rfl
  | succ n ih => unfold sumb; rw [ih]
theorem sumb_ind {d n : Nat} : sumb (fun c => if d = c then 1 else 0) n = if d < n then 1 else 0 := by
  induction n with
  | zero => rfl
  | succ n ih =>
    unfold sumb
    rw [ih]
    by_cases h1 : d < n
    · rw [if_pos h1, if_neg (by omega), if_pos (by omega)]
    · by_cases h2 : d = n
      · rw [if_neg h1, if_pos h2, if_pos (by omega)]
      · rw [if_neg h1, if_neg h2, if_neg (by omega)]
/-- on how many of the first n pegs a colour is -/
def cnc (C P a c n : Nat) : Nat := cntb (fun k => dg C P a k == c) n
/-- ALIKE -/
def al (C P a b : Nat) : Nat := sumb (fun c => min (cnc C P a c P) (cnc C P b c P)) C
theorem cnc_sum {C P a : Nat} (h0 : 0 < C) (n : Nat) : sumb (fun c => cnc C P a c n) C = n := by
  induction n with
  | zero => exact sumb_zero C
  | succ n ih =>
    have e : sumb (fun c => cnc C P a c (n + 1)) C = sumb (fun c => cnc C P a c n + (if dg C P a n = c then 1 else 0)) C := by
      refine sumb_congr (fun c _ => ?_)
      show cntb _ (n + 1) = _
      rw [cntb]
      show cnc C P a c n + _ = _
      simp [beq_iff_eq]
    rw [e, sumb_add, ih, sumb_ind, if_pos (dg_lt h0)]
theorem al_le {C P a b : Nat} (h0 : 0 < C) : al C P a b ≤ P := by
  have h := cnc_sum (C := C) (P := P) (a := a) h0 P
  have := sumb_le (f := fun c => min (cnc C P a c P) (cnc C P b c P)) (g := fun c => cnc C P a c P) (n := C) (fun c _ => Nat.min_le_left _ _)
  unfold al; omega
theorem rt_le {C P a b : Nat} {t : Bool} : rt C P a b t ≤ P := cntb_le _ _
theorem alikeM {N C P : Nat} {σ : St} (hP : σ 31 3 = nI P) (hC : σ 31 4 = nI C) (hp : P < 1000) (h0 : 0 < C) (hc : C < 1000) (hN : P < N) (hN2 : C < N) {a b : Nat} (ha : a < 2 ^ 31) (hb : b < 2 ^ 31) : D_X12_alike N σ (nI a) (nI b) = some (nI (al C P a b)) := by
  unfold D_X12_alike
  have inner : ∀ (kc5 : Int32 → Int32 → Option Int32) (s c : Nat), c < C → s < 2000000 → L_X12_alike_23 N σ kc5 (nI a) (nI b) (nI s) (nI c) N 0 0 0 = kc5 (nI (s + min (cnc C P a c P) (cnc C P b c P))) (nI (c + 1)) := by
    intro kc5 s c hcC hs
    refine loopQ (S := Nat × Nat) (fun n i q => L_X12_alike_23 N σ kc5 (nI a) (nI b) (nI s) (nI c) n (nI q.1) (nI q.2) (nI i)) P (fun i q => q = (cnc C P a c i, cnc C P b c i)) (fun o => o = kc5 (nI (s + min (cnc C P a c P) (cnc C P b c P))) (nI (c + 1))) ?_ ?_ N 0 (0, 0) (Nat.zero_le _) (by omega) rfl
    · intro n q hI
      subst hI
      show L_X12_alike_23 N σ kc5 (nI a) (nI b) (nI s) (nI c) (n + 1) (nI (cnc C P a c P)) (nI (cnc C P b c P)) (nI P) = _
      have l1 : cnc C P a c P ≤ P := cntb_le _ _
      have l2 : cnc C P b c P ≤ P := cntb_le _ _
      rw [L_X12_alike_23, hP, if_pos (by rw [nI_leI (by omega) (by omega)]; omega)]
      by_cases h : cnc C P b c P ≤ cnc C P a c P
      · rw [if_pos (by rw [nI_leI (by omega) (by omega)]; exact h), nI_add, nI_1, Nat.min_eq_right h]
      · rw [if_neg (by rw [nI_leI (by omega) (by omega)]; exact h), nI_add, nI_1, Nat.min_eq_left (by omega)]
    · intro n i q hi hI ih
      subst hI
      show L_X12_alike_23 N σ kc5 (nI a) (nI b) (nI s) (nI c) (n + 1) (nI (cnc C P a c i)) (nI (cnc C P b c i)) (nI i) = _
      rw [L_X12_alike_23, hP, if_neg (by rw [nI_leI (by omega) (by omega)]; omega), pegM hP hC (by omega) h0 (by omega) hN hi ha, bp_s]
      have l1 : dg C P a i < C := dg_lt h0
      have l2 : dg C P b i < C := dg_lt h0
      have step : ∀ q : Nat, q = (if dg C P a i = c then 1 else 0) → J_X12_alike_51 N σ kc5 (L_X12_alike_23 N σ kc5 (nI a) (nI b) (nI s) (nI c) n) (nI a) (nI b) (nI s) (nI c) (nI (cnc C P b c i)) (nI i) (nI (cnc C P a c i)) (nI q) = kc5 (nI (s + min (cnc C P a c P) (cnc C P b c P))) (nI (c + 1)) := by
        intro q hq
        unfold J_X12_alike_51
        rw [pegM hP hC (by omega) h0 (by omega) hN hi hb, bp_s, nI_add, nI_1 i]
        have ea : cnc C P a c i + q = cnc C P a c (i + 1) := by
          rw [hq]; show _ = cntb _ (i + 1); rw [cntb]; show _ = cnc C P a c i + _; simp [beq_iff_eq]
        have eb : cnc C P b c i + (if dg C P b i = c then 1 else 0) = cnc C P b c (i + 1) := by
          show _ = cntb _ (i + 1); rw [cntb]; show _ = cnc C P b c i + _; simp [beq_iff_eq]
        by_cases e : dg C P b i = c
        · rw [if_pos e] at eb
          rw [if_pos (by rw [e]), nI_1 (cnc C P b c i), ea, eb]
          exact ih (cnc C P a c (i + 1), cnc C P b c (i + 1)) rfl
        · rw [if_neg e] at eb
          rw [if_neg (by rw [nI_eq (by omega) (by omega)]; exact e), nI_z, ea]
          rw [show cnc C P b c i = cnc C P b c (i + 1) by omega]
          exact ih (cnc C P a c (i + 1), cnc C P b c (i + 1)) rfl
      by_cases e : dg C P a i = c
      · rw [if_pos (by rw [e])]
        exact step 1 (by rw [if_pos e])
      · rw [if_neg (by rw [nI_eq (by omega) (by omega)]; exact e)]
        exact step 0 (by rw [if_neg e])
  refine loopQ (S := Nat) (fun n i s => L_X12_alike_5 N σ (nI a) (nI b) n (nI s) (nI i)) C (fun i s => s = sumb (fun c => min (cnc C P a c P) (cnc C P b c P)) i ∧ s ≤ i * 1000) (fun o => o = some (nI (al C P a b))) ?_ ?_ N 0 0 (Nat.zero_le _) (by omega) ⟨rfl, by omega⟩
  · intro n s hI
    show L_X12_alike_5 N σ (nI a) (nI b) (n + 1) (nI s) (nI C) = _
    rw [L_X12_alike_5, hC, if_pos (by rw [nI_leI (by omega) (by omega)]; omega), hI.1]
    rfl
  · intro n i s hi hI ih
    show L_X12_alike_5 N σ (nI a) (nI b) (n + 1) (nI s) (nI i) = _
    have hb2 : s < 2000000 := by have := hI.2; omega
    rw [L_X12_alike_5, hC, if_neg (by rw [nI_leI (by omega) (by omega)]; omega), inner _ s i hi hb2]
    have l1 : cnc C P a i P ≤ P := cntb_le _ _
    exact ih _ ⟨by rw [sumb, ← hI.1], by have := hI.2; have := Nat.min_le_left (cnc C P a i P) (cnc C P b i P); omega⟩
/-- what a judge of a kind tells -/
def tl (C P kd a b : Nat) : Nat := if kd = 1 then al C P a b else if kd = 2 then rt C P a b false else if kd = 3 then 9 * rt C P a b true + al C P a b else if kd = 4 then al C P a b % 2 else 9 * rt C P a b false + al C P a b
theorem tl_le {C P kd a b : Nat} (h0 : 0 < C) : tl C P kd a b ≤ 10 * P := by
  have h1 : al C P a b ≤ P := al_le h0
  have h2 : ∀ t, rt C P a b t ≤ P := fun t => rt_le
  have h3 := h2 true
  have h4 := h2 false
  unfold tl
  split
  · omega
  · split
    · omega
    · split
      · omega
      · split
        · omega
        · omega
theorem tellM {N C P : Nat} {σ : St} (hP : σ 31 3 = nI P) (hC : σ 31 4 = nI C) (hp : P < 1000) (h0 : 0 < C) (hc : C < 1000) (hN : P < N) (hN2 : C < N) {a b kd : Nat} (ha : a < 2 ^ 31) (hb : b < 2 ^ 31) (hk : kd < 5) : D_X12_tellsBy N σ (nI kd) (nI a) (nI b) = some (nI (tl C P kd a b)) := by
  have hr := fun t => rightM (N := N) hP hC hp h0 hc hN ha hb t
  have h1 : D_X12_right N σ (nI a) (nI b) 1 = some (nI (rt C P a b true)) := hr true
  have h2 : D_X12_right N σ (nI a) (nI b) 0 = some (nI (rt C P a b false)) := hr false
  have h3 := alikeM (N := N) hP hC hp h0 hc hN hN2 ha hb
  have l1 : al C P a b ≤ P := al_le h0
  have l2 : rt C P a b true ≤ P := rt_le
  have l3 : rt C P a b false ≤ P := rt_le
  have m9 : ∀ z : Nat, (9 : Int32) * nI z = nI (9 * z) := fun z => by rw [← pk_mul]; rfl
  have r2 : nI (al C P a b) - nI (al C P a b) / (2 : Int32) * (2 : Int32) = nI (al C P a b % 2) := pk_rem (d := 2) (by omega) (by omega) (by omega)
  unfold D_X12_tellsBy J_X12_tellsBy_13 J_X12_tellsBy_67
  rcases (show kd = 0 ∨ kd = 1 ∨ kd = 2 ∨ kd = 3 ∨ kd = 4 by omega) with rfl | rfl | rfl | rfl | rfl
  · rw [if_neg (by decide), h2, bp_s, if_neg (by decide), if_neg (by decide), if_neg (by decide), if_neg (by decide), h3, bp_s, m9, nI_add]; rfl
  · rw [if_neg (by decide), h2, bp_s, if_pos (by decide), h3, bp_s]; rfl
  · rw [if_neg (by decide), h2, bp_s, if_neg (by decide), if_pos (by decide)]; rfl
  · rw [if_pos (by decide), h1, bp_s, if_neg (by decide), if_neg (by decide), if_pos (by decide), h3, bp_s, m9, nI_add]; rfl
  · rw [if_neg (by decide), h2, bp_s, if_neg (by decide), if_neg (by decide), if_neg (by decide), if_pos (by decide), h3, bp_s, r2]; rfl
