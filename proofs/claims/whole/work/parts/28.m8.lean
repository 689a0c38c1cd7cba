/-! left, fits, row, show, note -/
theorem Ok2.moved {n : Nat} {σ μ τ ν : St} (h : RelE n σ μ) (hK : Kp [9, 24, 25, 26, 27, 30] σ τ) (hM : KpM μ ν) {r : Int32} : Ok2 n (some (r, τ)) (some (r, ν)) := ⟨r, τ, ν, rfl, rfl, (h.move hK hM).up⟩
theorem kp3 {σ τ : St} (h : Kp [24, 25, 26] σ τ) : Kp [9, 24, 25, 26, 27, 30] σ τ := h.mono (by decide)
/-- how many fit, on both sides -/
theorem left_both {N C P J R hid ns : Nat} {kd sr sj st : Nat → Nat} {σ μ : St} (hG : RGm C P J R σ μ) (hR : 0 < R) (hNow : Now J R hid ns kd sr sj st σ μ) (hN : 5000 ≤ N) :
    ∃ τ ν, D_X11_gatherFitting N σ = some (nI (cntb (fitF C P kd sr sj st ns) R), τ) ∧ D_X12_leftOf N μ = some (nI (cntb (fitF C P kd sr sj st ns) R), ν) ∧ D_X12_layFit N μ = some ν ∧ PoolX R (fitF C P kd sr sj st ns) τ ∧ FitM R (fitF C P kd sr sj st ns) ν ∧ Kp [9, 24, 25, 26, 27, 30] σ τ ∧ KpM μ ν := by
  have l := hG.1.le
  obtain ⟨τ, a1, a2, a3⟩ := gatherX hG hR hNow.1 hN
  obtain ⟨ν, b1, b2, b3⟩ := layFitM hG hNow hN
  refine ⟨τ, ν, a1, ?_, b1, a2, b2, kp3 a3, b3⟩
  unfold D_X12_leftOf
  have h5 : ν 31 5 = nI R := (hG.move (τ := σ) Kp.rfl b3).2.2.2.2.2.2.2.1
  rw [b1, bp_s, fitManyM h5 (by omega) b2 hN, bp_s]
theorem q_left {N n : Nat} {σ μ : St} (hN : 5000 ≤ N) (h : RelE n σ μ) : Ok2 n (D_X11_left N σ) (D_X12_left N μ) := by
  have h0 := h
  obtain ⟨C, P, J, R, gr, hn, hp, hG, ⟨hid, ns, kd, sr, sj, st, hNow⟩, hI, hT⟩ := h
  unfold D_X11_left D_X12_left
  rw [gameOn_X hG, lacks_M hG, bp_s, bp_s]
  by_cases e : R = 0
  · rw [if_pos e, if_pos e, if_pos rfl, if_neg (by decide)]
    exact Ok2.same h0
  · obtain ⟨τ, ν, a1, a2, -, -, -, a5, a6⟩ := left_both (N := N) hG (by omega) hNow hN
    rw [if_neg e, if_neg e, if_neg (by decide), if_pos rfl, a1, a2, bs_s, bs_s]
    exact Ok2.moved h0 a5 a6
theorem fitsOfM {N R : Nat} {f : Nat → Bool} {μ : St} (h5 : μ 31 5 = nI R) (hR : R ≤ 216) (hF : FitM R f μ) (hN : 5000 ≤ N) (x : Nat) (hx : x < 2 ^ 31) : (x < cntb f R → ∃ r, r < R ∧ f r = true ∧ cntb f r = x ∧ L_X12_fitsOf_8 N N (nI x) 0 μ = some (nI r, μ)) ∧ (cntb f R ≤ x → L_X12_fitsOf_8 N N (nI x) 0 μ = some (-1, μ)) := by
  have key : ∀ (P : Option (Int32 × St) → Prop), (cntb f R ≤ x → P (some (-1, μ))) → (∀ r, r < R → f r = true → cntb f r = x → P (some (nI r, μ))) → P (L_X12_fitsOf_8 N N (nI x) 0 μ) := by
    intro P h1 h2
    refine loopQ (S := Nat) (fun n i s => L_X12_fitsOf_8 N n (nI s) (nI i) μ) R (fun i s => cntb f i ≤ x ∧ s = x - cntb f i) P ?_ ?_ N 0 x (Nat.zero_le _) (by omega) ⟨Nat.zero_le _, rfl⟩
    · intro n s hI
      show P (L_X12_fitsOf_8 N (n + 1) (nI s) (nI R) μ)
      rw [L_X12_fitsOf_8, h5, if_pos (by rw [nI_leI (by omega) (by omega)]; omega)]
      exact h1 hI.1
    · intro n i s hi hI ih
      obtain ⟨hI1, hI2⟩ := hI
      show P (L_X12_fitsOf_8 N (n + 1) (nI s) (nI i) μ)
      unfold L_X12_fitsOf_8 J_X12_fitsOf_32
      rw [h5, if_neg (by rw [nI_leI (by omega) (by omega)]; omega), gi_nI (by omega) (by omega), gi_nI (by omega) (by omega), nI_clamp (by omega), hF i hi, nI_1]
      cases hf : f i with
      | false =>
        rw [show bI false = (0 : Int32) from rfl, if_neg (show ¬ (0 : Int32) = 1 by decide), show nI s - (0 : Int32) = nI s by rw [nI_lit0, pk_sub (Nat.zero_le _)]; rfl]
        exact ih s ⟨by rw [cntb, hf]; simpa using hI1, by rw [cntb, hf]; simpa using hI2⟩
      | true =>
        rw [show bI true = (1 : Int32) from rfl, if_pos (Eq.refl _)]
        by_cases e : s = 0
        · rw [e, if_pos (show nI 0 = (0 : Int32) from Eq.refl _)]
          exact h2 i hi hf (by omega)
        · rw [if_neg (nI_ne0 (by omega) (by omega)), nI_lit1, pk_sub (by omega)]
          exact ih (s - 1) ⟨by rw [cntb, hf]; simp; omega, by rw [cntb, hf]; simp; omega⟩
  constructor
  · intro hx2
    exact key (fun o => ∃ r, r < R ∧ f r = true ∧ cntb f r = x ∧ o = some (nI r, μ)) (fun q => by omega) (fun r a b c => ⟨r, a, b, c, rfl⟩)
  · intro hx2
    exact key (fun o => o = some (-1, μ)) (fun _ => rfl) (fun r a b c => by have := cntb_lt a b; omega)
theorem q_fits {N n : Nat} {σ μ : St} (hN : 5000 ≤ N) (h : RelE n σ μ) (x : Int32) : Ok2 n (D_X11_fits N σ x) (D_X12_fits N μ x) := by
  have h0 := h
  obtain ⟨C, P, J, R, gr, hn, hp, hG, ⟨hid, ns, kd, sr, sj, st, hNow⟩, hI, hT⟩ := h
  have l := hG.1.le
  unfold D_X11_fits D_X12_fits
  by_cases c : 0 ≤ x
  · rw [if_pos c, if_pos c, gameOn_X hG, lacks_M hG, bp_s, bp_s]
    by_cases e : R = 0
    · rw [if_pos e, if_pos e, if_pos rfl, if_neg (by decide)]
      exact Ok2.same h0
    · obtain ⟨τ, ν, a1, -, a3, a4, a5, a6, a7⟩ := left_both (N := N) hG (by omega) hNow hN
      have h5 : ν 31 5 = nI R := (hG.move (τ := σ) Kp.rfl a7).2.2.2.2.2.2.2.1
      obtain ⟨v, hv, rfl⟩ := nI_of (Int32.not_lt.mpr c)
      have cl : cntb (fitF C P kd sr sj st ns) R ≤ R := cntb_le _ _
      obtain ⟨f1, f2⟩ := fitsOfM (N := N) h5 (by omega) a5 hN v hv
      unfold D_X12_fitsOf
      rw [if_neg e, if_neg e, if_neg (by decide), if_pos rfl, a1, a3, bs_s, bp_s]
      rcases Nat.lt_or_ge v (cntb (fitF C P kd sr sj st ns) R) with q | q
      · obtain ⟨r, r1, r2, r3, r4⟩ := f1 q
        rw [if_neg (by rw [nI_leI (by omega) (by omega)]; omega), gi_nI (by omega) (by omega), nI_clamp (by omega), r4, bs_s, ← r3, a4.2.1 r r1 r2]
        exact Ok2.moved h0 a6 a7
      · rw [if_pos (by rw [nI_leI (by omega) (by omega)]; omega), f2 q, bs_s]
        exact Ok2.moved h0 a6 a7
  · rw [if_neg c, if_neg c]
    exact Ok2.same h0
theorem q_row {N n : Nat} {σ μ : St} (hN : 5000 ≤ N) (h : RelE n σ μ) (x y : Int32) : Ok2 n (pu σ (D_X11_row N σ x y)) (pu μ (D_X12_row N μ x y)) := by
  have h0 := h
  obtain ⟨C, P, J, R, gr, hn, hp, hG, ⟨hid, ns, kd, sr, sj, st, hNow⟩, hI, hT⟩ := h
  have l := hG.1.le
  unfold D_X11_row D_X12_row
  rw [isRow_X hG, isRow_M hG, bp_s, bp_s]
  rcases tI_cases x (n := R) (by omega) with t | ⟨r, hr, rfl, t⟩
  · rw [t, if_pos rfl, if_pos rfl]
    exact Ok2.pure h0
  · rw [t, if_neg (show ¬ (1 : Int32) = 0 by decide), if_neg (show ¬ (1 : Int32) = 0 by decide), fitX hG hNow hN hr]
    obtain ⟨o1, o2, o3, o4, o5, o6, o7⟩ := hG.1.on (by omega)
    have hG2 := hG
    obtain ⟨-, g1, g2, g3, g4, g5, g6, g7, g8, g9⟩ := hG2
    unfold D_X12_tellRow J_X12_tellRow_50
    rw [isFitM hG hNow hN hr, bp_s, g1, g5, hNow.1.2.2.1, hNow.2.2.2 (by omega)]
    rcases tI_cases y (n := 5) (by omega) with t2 | ⟨v, hv, rfl, t2⟩
    · have e : ∀ v : Nat, v < 5 → ¬ y = nI v := fun v hv q => by
        rw [q, tI_nI hv (by omega)] at t2
        exact absurd t2 (by decide)
      rw [if_neg (show ¬ y = (0 : Int32) from e 0 (by omega)), if_neg (show ¬ y = (0 : Int32) from e 0 (by omega)), if_neg (show ¬ y = (1 : Int32) from e 1 (by omega)), if_neg (show ¬ y = (2 : Int32) from e 2 (by omega)), if_neg (show ¬ y = (3 : Int32) from e 3 (by omega)), if_neg (show ¬ y = (4 : Int32) from e 4 (by omega)), bp_s]
      by_cases c1 : y < 0
      · rw [if_pos c1]; exact Ok2.pure h0
      · rw [if_neg c1]
        by_cases c2 : y ≤ 4
        · obtain ⟨j, hj, rfl⟩ := nI_of c1
          exact absurd rfl (e j (by have := (nI_leI (b := 4) hj (by omega)).mp c2; omega))
        · rw [if_neg c2]; exact Ok2.pure h0
    · have pg : ∀ k : Nat, k < 3 → (if nI P < nI (k + 1) then some (-1 : Int32) else bp (D_X6_colour N σ (nI r) (nI k)) (fun r8 => some r8)) = (if nI P ≤ nI k then some (-1 : Int32) else bp (D_X12_peg N μ (nI r) (nI k)) (fun r6 => some r6)) := fun k hk => by
        by_cases c : P ≤ k
        · rw [if_pos (nI_lt (by omega) (by omega)), if_pos (nI_le c (by omega))]
        · rw [if_neg (nI_nlt (by omega) (by omega)), if_neg (nI_ge (by omega) (by omega)), colX g1 g2 (by omega) (by omega) (by omega) (by omega) (by omega) (by omega), pegM g5 g6 (by omega) (by omega) (by omega) (by omega) (by omega) (by omega)]
      have ps : ∀ k : Nat, k < 3 → ∃ z, (if nI P ≤ nI k then some (-1 : Int32) else bp (D_X12_peg N μ (nI r) (nI k)) (fun r6 => some r6)) = some z := fun k hk => by
        by_cases c : P ≤ k
        · exact ⟨_, if_pos (nI_le c (by omega))⟩
        · rw [if_neg (nI_ge (by omega) (by omega)), pegM g5 g6 (by omega) (by omega) (by omega) (by omega) (by omega) (by omega)]
          exact ⟨_, rfl⟩
      rw [if_neg (nI_pos (by omega)), if_pos (show nI v ≤ (4 : Int32) from nI_le (b := 4) (by omega) (by omega))]
      rcases (show v = 0 ∨ v = 1 ∨ v = 2 ∨ v = 3 ∨ v = 4 by omega) with rfl | rfl | rfl | rfl | rfl
      · rw [if_pos (show nI 0 = (0 : Int32) from rfl), if_pos (show nI 0 = (0 : Int32) from rfl)]
        cases fitF C P kd sr sj st ns r
        · exact Ok2.pure h0
        · exact Ok2.pure h0
      · obtain ⟨z, hz⟩ := ps 0 (by omega)
        rw [if_neg (show ¬ nI 1 = (0 : Int32) by decide), if_pos (show nI 1 ≤ (3 : Int32) by decide), if_neg (show ¬ nI 1 = (0 : Int32) by decide), if_pos (show nI 1 = (1 : Int32) from rfl), show nI 1 - (1 : Int32) = nI 0 from rfl, show (nI 1 : Int32) = nI (0 + 1) from rfl, pg 0 (by omega), hz, bp_s]
        exact Ok2.pure h0
      · obtain ⟨z, hz⟩ := ps 1 (by omega)
        rw [if_neg (show ¬ nI 2 = (0 : Int32) by decide), if_pos (show nI 2 ≤ (3 : Int32) by decide), if_neg (show ¬ nI 2 = (0 : Int32) by decide), if_neg (show ¬ nI 2 = (1 : Int32) by decide), if_pos (show nI 2 = (2 : Int32) from rfl), show nI 2 - (1 : Int32) = nI 1 from rfl, show (nI 2 : Int32) = nI (1 + 1) from rfl, pg 1 (by omega), hz, bp_s]
        exact Ok2.pure h0
      · obtain ⟨z, hz⟩ := ps 2 (by omega)
        rw [if_neg (show ¬ nI 3 = (0 : Int32) by decide), if_pos (show nI 3 ≤ (3 : Int32) by decide), if_neg (show ¬ nI 3 = (0 : Int32) by decide), if_neg (show ¬ nI 3 = (1 : Int32) by decide), if_neg (show ¬ nI 3 = (2 : Int32) by decide), if_pos (show nI 3 = (3 : Int32) from rfl), show nI 3 - (1 : Int32) = nI 2 from rfl, show (nI 3 : Int32) = nI (2 + 1) from rfl, pg 2 (by omega), hz, bp_s]
        exact Ok2.pure h0
      · rw [if_neg (show ¬ nI 4 = (0 : Int32) by decide), if_neg (show ¬ nI 4 ≤ (3 : Int32) by decide), if_neg (show ¬ nI 4 = (0 : Int32) by decide), if_neg (show ¬ nI 4 = (1 : Int32) by decide), if_neg (show ¬ nI 4 = (2 : Int32) by decide), if_neg (show ¬ nI 4 = (3 : Int32) by decide), if_pos (show nI 4 = (4 : Int32) from rfl)]
        split
        · exact Ok2.pure h0
        · exact Ok2.pure h0
/-- an entry comes behind what is shown -/
theorem keep_both {C P J R hid ns : Nat} {kd sr sj st : Nat → Nat} {σ μ : St} (hJ : J ≤ 3) (hR : R ≤ 216) (hNow : Now J R hid ns kd sr sj st σ μ) (h12 : ns < 12) {r j t : Nat} (hr : r < R) (hj : j < J) (ht : t ≤ 40) :
    ∃ τ ν sr' sj' st', D_X0_append σ (nI r) (nI j) (nI t) = some τ ∧ D_X12_keep μ (nI r) (nI j) (nI t) = some ν ∧ Now J R hid (ns + 1) kd sr' sj' st' τ ν ∧ Kp [10, 12, 13, 14] σ τ ∧ τ 10 4 = σ 10 4 ∧ (∀ k, k ∉ [31, 34] → ν k = μ k) ∧ ∀ q, q ≠ 8 → ν 31 q = μ 31 q := by
  obtain ⟨⟨k1, k2, k3, k4, k5, k6⟩, n2, n3, n4⟩ := hNow
  unfold D_X0_append D_X12_keep
  rw [k4, n2, if_neg (show ¬ (12 : Int32) ≤ nI ns from nI_ge (b := 12) h12 (by omega)), nI_m3, nI_p2, nI_1 (3 * ns), nI_1 ns, gi_nI (by omega) (by omega), gi_nI (by omega) (by omega), gi_nI (by omega) (by omega), gi_nI (by omega) (by omega), gi_nI (by omega) (by omega), gi_nI (by omega) (by omega), nI_clamp (by omega), nI_clamp (by omega), nI_clamp (by omega), nI_clamp (by omega)]
  refine ⟨_, _, fun i => if i = ns then r else sr i, fun i => if i = ns then j else sj i, fun i => if i = ns then t else st i, rfl, rfl, ⟨⟨by omega, k2, k3, rfl, k5, fun i hi => ?_⟩, rfl, n3, n4⟩, fun k hk => ?_, rfl, fun k hk => ?_, fun q hq => ?_⟩
  · show (if i = ns then r else sr i) < R ∧ (if i = ns then j else sj i) < J ∧ (if i = ns then t else st i) ≤ 40 ∧ upd (σ 12) ns (nI r) i = nI (if i = ns then r else sr i) ∧ upd (σ 13) ns (nI j) i = nI (if i = ns then j else sj i) ∧ upd (σ 14) ns (nI t) i = nI (if i = ns then t else st i) ∧ upd (upd (upd (μ 34) (3 * ns) (nI r)) (3 * ns + 1) (nI j)) (3 * ns + 2) (nI t) (3 * i) = nI (if i = ns then r else sr i) ∧ upd (upd (upd (μ 34) (3 * ns) (nI r)) (3 * ns + 1) (nI j)) (3 * ns + 2) (nI t) (3 * i + 1) = nI (if i = ns then j else sj i) ∧ upd (upd (upd (μ 34) (3 * ns) (nI r)) (3 * ns + 1) (nI j)) (3 * ns + 2) (nI t) (3 * i + 2) = nI (if i = ns then t else st i)
    by_cases e : i = ns
    · subst e
      rw [if_pos rfl, if_pos rfl, if_pos rfl, upd_at, upd_at, upd_at, upd_ne (by omega), upd_ne (by omega), upd_at, upd_ne (by omega), upd_at, upd_at]
      exact ⟨hr, hj, ht, rfl, rfl, rfl, rfl, rfl, rfl⟩
    · rw [if_neg e, if_neg e, if_neg e, upd_ne e, upd_ne e, upd_ne e, upd_ne (by omega), upd_ne (by omega), upd_ne (by omega), upd_ne (by omega), upd_ne (by omega), upd_ne (by omega), upd_ne (by omega), upd_ne (by omega), upd_ne (by omega)]
      exact k6 i (by omega)
  · rw [pt_ne (fun e => hk (by rw [e]; decide)), pt_ne (fun e => hk (by rw [e]; decide)), pt_ne (fun e => hk (by rw [e]; decide)), pt_ne (fun e => hk (by rw [e]; decide))]
  · rw [pt_ne (fun e => hk (by rw [e]; decide)), pt_ne (fun e => hk (by rw [e]; decide)), pt_ne (fun e => hk (by rw [e]; decide)), pt_ne (fun e => hk (by rw [e]; decide))]
  · show upd (μ 31) 8 _ q = μ 31 q
    exact upd_ne hq
