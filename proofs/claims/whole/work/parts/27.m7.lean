/-! which rows fit -/
def fitF (C P : Nat) (kd sr sj st : Nat → Nat) : Nat → Nat → Bool
  | 0, _ => true
  | n + 1, r => fitF C P kd sr sj st n r && (tl C P (kd (sj n)) (sr n) r == st n)
theorem gatherX {N C P J R hid ns : Nat} {kd sr sj st : Nat → Nat} {σ μ : St} (hG : RGm C P J R σ μ) (hR : 0 < R) (hNow : Crs 10 33 34 J R hid ns kd sr sj st σ μ) (hN : 5000 ≤ N) :
    ∃ τ, D_X11_gatherFitting N σ = some (nI (cntb (fitF C P kd sr sj st ns) R), τ) ∧ PoolX R (fitF C P kd sr sj st ns) τ ∧ Kp [24, 25, 26] σ τ := by
  have l := hG.1.le
  obtain ⟨o1, o2, o3, o4, o5, o6, o7⟩ := hG.1.on hR
  obtain ⟨-, -, -, g3, -, -, -, -, -, g9⟩ := hG
  have hT := g9 hR
  obtain ⟨k1, k2, k3, k4, k5, k6⟩ := hNow
  unfold D_X11_gatherFitting
  obtain ⟨τ, e1, e2, e3⟩ := fillX (N := N) g3 (by omega) (by omega)
  rw [e1, bp_s]
  refine loopQ (S := St) (fun n i s => L_X11_gatherFitting_9 N n (nI i) s) ns (fun i s => PoolX R (fitF C P kd sr sj st i) s ∧ Kp [24, 25, 26] σ s) (fun o => ∃ τ, o = some (nI (cntb (fitF C P kd sr sj st ns) R), τ) ∧ PoolX R (fitF C P kd sr sj st ns) τ ∧ Kp [24, 25, 26] σ τ) ?_ ?_ N 0 τ (Nat.zero_le _) (by omega) ⟨e2, e3⟩
  · intro n s ⟨i1, i2⟩
    show ∃ τ, L_X11_gatherFitting_9 N (n + 1) (nI ns) s = some _ ∧ _
    rw [L_X11_gatherFitting_9, i2 10 (by decide), k4, if_pos (by rw [nI_leI (by omega) (by omega)]; omega), i1.1]
    exact ⟨s, Eq.refl _, i1, i2⟩
  · intro n i s hi ⟨i1, i2⟩ ih
    obtain ⟨a1, a2, a3, a4, a5, a6, a7, a8, a9⟩ := k6 i hi
    obtain ⟨q1, q2, q3⟩ := k5 (sj i) a2
    have hT2 : TabX s C P := i2.tab (by decide) hT
    show ∃ τ, L_X11_gatherFitting_9 N (n + 1) (nI i) s = some _ ∧ _
    have ej : D_X11_judgeAt s (nI (sj i)) = some (kd (sj i)) := by
      unfold D_X11_judgeAt
      rw [gi_nI (by omega) (by omega), nI_clamp (by omega), i2 11 (by decide), show σ 11 (sj i) = nI (kd (sj i)) from q2, gi_nI q1 (by omega), nI_clamp (by omega)]
    obtain ⟨ρ, r1, r2, r3⟩ := keepX (N := N) hT2 o2 o3 o4 o7 q1 a1 (show st i < 1000 by omega) (by omega) i1
    rw [L_X11_gatherFitting_9, i2 10 (by decide), k4, if_neg (by rw [nI_leI (by omega) (by omega)]; omega), gi_nI (by omega) (by omega), nI_clamp (by omega), i2 13 (by decide), show σ 13 i = nI (sj i) from a5, ej, bp_s, gi_nI (by omega) (by omega), gi_nI (by omega) (by omega), i2 12 (by decide), i2 14 (by decide), show σ 12 i = nI (sr i) from a4, show σ 14 i = nI (st i) from a6, r1, bp_s, nI_1]
    exact ih ρ ⟨r2, i2.trans r3⟩
theorem fitX {N C P J R hid ns : Nat} {kd sr sj st : Nat → Nat} {σ μ : St} (hG : RGm C P J R σ μ) (hNow : Now J R hid ns kd sr sj st σ μ) (hN : 5000 ≤ N) {r : Nat} (hr : r < R) : D_X11_fitting N σ (nI r) = some (bI (fitF C P kd sr sj st ns r)) := by
  have l := hG.1.le
  obtain ⟨k1, k2, k3, k4, k5, k6⟩ := hNow.1
  unfold D_X11_fitting
  refine loopQ (S := Unit) (fun n i _ => L_X11_fitting_2 N σ (nI r) n (nI i)) ns (fun i _ => fitF C P kd sr sj st i r = true) (fun o => o = some (bI (fitF C P kd sr sj st ns r))) ?_ ?_ N 0 () (Nat.zero_le _) (by omega) rfl
  · intro n s hI
    show L_X11_fitting_2 N σ (nI r) (n + 1) (nI ns) = _
    rw [L_X11_fitting_2, k4, if_pos (by rw [nI_leI (by omega) (by omega)]; omega), hI]
    rfl
  · intro n i s hi hI ih
    obtain ⟨a1, a2, a3, a4, a5, a6, a7, a8, a9⟩ := k6 i hi
    obtain ⟨q1, q2, q3⟩ := k5 (sj i) a2
    obtain ⟨w1, -, w3⟩ := tell_both (N := N) hG hN a1 hr q1
    show L_X11_fitting_2 N σ (nI r) (n + 1) (nI i) = _
    rw [L_X11_fitting_2, k4, if_neg (by rw [nI_leI (by omega) (by omega)]; omega), gi_nI (by omega) (by omega), nI_clamp (by omega), show σ 13 i = nI (sj i) from a5, judgeAt_X hNow (by omega) a2, bp_s, gi_nI (by omega) (by omega), show σ 12 i = nI (sr i) from a4, w1, bp_s, gi_nI (by omega) (by omega), show σ 14 i = nI (st i) from a6]
    by_cases e : tl C P (kd (sj i)) (sr i) r = st i
    · rw [if_pos (by rw [e]), nI_1]
      exact ih () (by rw [fitF, hI, e]; simp)
    · rw [if_neg (by rw [nI_eq (by omega) (by omega)]; exact e)]
      have : ∀ m, i < m → fitF C P kd sr sj st m r = false := by
        intro m
        induction m with
        | zero => intro h; omega
        | succ m im =>
          intro h
          rw [fitF]
          by_cases e2 : m = i
          · subst e2; rw [beq_eq_false_iff_ne.mpr e, Bool.and_false]
          · rw [im (by omega), Bool.false_and]
      rw [this ns hi]
      rfl
def KpM (μ ν : St) : Prop := (∀ k, k ∉ [31, 35, 36, 37, 38] → ν k = μ k) ∧ ∀ j, j ∉ [2, 14, 20] → ν 31 j = μ 31 j
theorem KpM.trans {a b c : St} (h1 : KpM a b) (h2 : KpM b c) : KpM a c := ⟨fun k hk => (h2.1 k hk).trans (h1.1 k hk), fun j hj => (h2.2 j hj).trans (h1.2 j hj)⟩
theorem KpM.rfl {a : St} : KpM a a := ⟨fun _ _ => Eq.refl _, fun _ _ => Eq.refl _⟩
/-- a cell of the reference's scratch is written -/
theorem KpM.pt {a b : St} (h : KpM a b) {k i : Nat} {v : Int32} (hk : k = 35 ∨ k = 36 ∨ k = 37 ∨ k = 38) : KpM a (pt b k i v) := by
  refine ⟨fun q hq => ?_, fun j hj => ?_⟩
  · rw [pt_ne (fun e => hq (by rw [e]; rcases hk with rfl | rfl | rfl | rfl <;> decide))]
    exact h.1 q hq
  · rw [pt_ne (by rcases hk with rfl | rfl | rfl | rfl <;> decide)]
    exact h.2 j hj
theorem RGm.move {C P J R : Nat} {σ μ τ ν : St} (h : RGm C P J R σ μ) (hK : Kp [9, 24, 25, 26, 27, 30] σ τ) (hM : KpM μ ν) : RGm C P J R τ ν := by
  obtain ⟨g0, g1, g2, g3, g4, g5, g6, g7, g8, g9⟩ := h
  refine ⟨g0, ?_, ?_, ?_, ?_, ?_, ?_, ?_, ?_, fun hR => hK.tab (by decide) (g9 hR)⟩
  · rw [hK 20 (by decide)]; exact g1
  · rw [hK 20 (by decide)]; exact g2
  · rw [hK 20 (by decide)]; exact g3
  · rw [hK 0 (by decide)]; exact g4
  · rw [hM.2 3 (by decide)]; exact g5
  · rw [hM.2 4 (by decide)]; exact g6
  · rw [hM.2 5 (by decide)]; exact g7
  · rw [hM.2 6 (by decide)]; exact g8
theorem Crs.move {b kc sc J R hid ns : Nat} {kd sr sj st : Nat → Nat} {σ μ τ ν : St} (h : Crs b kc sc J R hid ns kd sr sj st σ μ) (h0 : τ b = σ b) (h1 : τ (b + 1) = σ (b + 1)) (h2 : τ (b + 2) = σ (b + 2)) (h3 : τ (b + 3) = σ (b + 3)) (h4 : τ (b + 4) = σ (b + 4)) (h5 : ν kc = μ kc) (h6 : ν sc = μ sc) : Crs b kc sc J R hid ns kd sr sj st τ ν := by
  unfold Crs at *
  rw [h0, h1, h2, h3, h4, h5, h6]
  exact h
theorem Now.move {J R hid ns : Nat} {kd sr sj st : Nat → Nat} {σ μ τ ν : St} (h : Now J R hid ns kd sr sj st σ μ) (hK : Kp [9, 24, 25, 26, 27, 30] σ τ) (hM : KpM μ ν) : Now J R hid ns kd sr sj st τ ν := by
  obtain ⟨h1, h2, h3, h4⟩ := h
  refine ⟨h1.move (hK 10 (by decide)) (hK 11 (by decide)) (hK 12 (by decide)) (hK 13 (by decide)) (hK 14 (by decide)) (hM.1 33 (by decide)) (hM.1 34 (by decide)), ?_, ?_, ?_⟩
  · rw [hM.2 8 (by decide)]; exact h2
  · rw [hM.2 7 (by decide)]; exact h3
  · rw [hM.2 7 (by decide)]; exact h4
theorem RPg.move {σ μ τ ν : St} (h : RPg σ μ) (hK : Kp [9, 24, 25, 26, 27, 30] σ τ) (hM : KpM μ ν) : RPg τ ν := by
  unfold RPg at *
  rw [hK 1 (by decide), hK 2 (by decide), hM.1 32 (by decide), hM.2 1 (by decide)]
  exact h
theorem RIm.move {J R gr : Nat} {σ μ τ ν : St} (h : RIm J R gr σ μ) (hK : Kp [9, 24, 25, 26, 27, 30] σ τ) (hM : KpM μ ν) : RIm J R gr τ ν := by
  unfold RIm at *
  rw [hK 0 (by decide), hM.2 21 (by decide), hM.2 22 (by decide), hM.2 23 (by decide)]
  rcases h with h | ⟨h1, h2, h3, hid, ns, kd, sr, sj, st, h4, h5, h6⟩
  · exact Or.inl h
  · exact Or.inr ⟨h1, h2, h3, hid, ns, kd, sr, sj, st, h4.move (hK 15 (by decide)) (hK 16 (by decide)) (hK 17 (by decide)) (hK 18 (by decide)) (hK 19 (by decide)) (hM.1 39 (by decide)) (hM.1 40 (by decide)), h5, h6⟩
theorem RCt.move {gr : Nat} {σ μ τ ν : St} (h : RCt gr σ μ) (hK : Kp [9, 24, 25, 26, 27, 30] σ τ) (hM : KpM μ ν) : RCt gr τ ν := by
  unfold RCt at *
  rw [hK 0 (by decide), hK 28 (by decide), hK 29 (by decide), hM.2 9 (by decide), hM.2 15 (by decide), hM.2 16 (by decide), hM.2 17 (by decide)]
  exact h
theorem Rel.move {C P J R gr : Nat} {σ μ τ ν : St} (h : Rel C P J R gr σ μ) (hK : Kp [9, 24, 25, 26, 27, 30] σ τ) (hM : KpM μ ν) : Rel C P J R gr τ ν := by
  obtain ⟨h1, h2, ⟨hid, ns, kd, sr, sj, st, h3⟩, h4, h5⟩ := h
  exact ⟨h1.move hK hM, h2.move hK hM, ⟨hid, ns, kd, sr, sj, st, h3.move hK hM⟩, h4.move hK hM, h5.move hK hM⟩
theorem RelE.move {n : Nat} {σ μ τ ν : St} (h : RelE n σ μ) (hK : Kp [9, 24, 25, 26, 27, 30] σ τ) (hM : KpM μ ν) : RelE n τ ν := by
  obtain ⟨C, P, J, R, gr, h1, h2⟩ := h
  exact ⟨C, P, J, R, gr, h1, h2.move hK hM⟩
theorem isFitM {N C P J R hid ns : Nat} {kd sr sj st : Nat → Nat} {σ μ : St} (hG : RGm C P J R σ μ) (hNow : Now J R hid ns kd sr sj st σ μ) (hN : 5000 ≤ N) {r : Nat} (hr : r < R) : D_X12_isFit N μ (nI r) = some (bI (fitF C P kd sr sj st ns r)) := by
  have l := hG.1.le
  obtain ⟨⟨k1, k2, k3, k4, k5, k6⟩, n2, -⟩ := hNow
  unfold D_X12_isFit
  refine loopQ (S := Bool) (fun n i b => L_X12_isFit_4 N μ (nI r) n (bI b) (nI (3 * i))) ns (fun i b => b = fitF C P kd sr sj st i r) (fun o => o = some (bI (fitF C P kd sr sj st ns r))) ?_ ?_ N 0 true (Nat.zero_le _) (by omega) rfl
  · intro n b hI
    show L_X12_isFit_4 N μ (nI r) (n + 1) (bI b) (nI (3 * ns)) = _
    rw [L_X12_isFit_4, n2, nI_m3, if_pos (by rw [nI_leI (by omega) (by omega)]; omega), hI]
    cases fitF C P kd sr sj st ns r
    · exact gb_0
    · exact gb_1
  · intro n i b hi hI ih
    obtain ⟨a1, a2, a3, a4, a5, a6, a7, a8, a9⟩ := k6 i hi
    obtain ⟨q1, q2, q3⟩ := k5 (sj i) a2
    obtain ⟨-, w2, w3⟩ := tell_both (N := N) hG hN a1 hr q1
    show L_X12_isFit_4 N μ (nI r) (n + 1) (bI b) (nI (3 * i)) = _
    rw [L_X12_isFit_4, n2, nI_m3, if_neg (by rw [nI_leI (by omega) (by omega)]; omega), nI_p3, nI_1, nI_p2, gi_nI (by omega) (by omega), nI_clamp (by omega), a8, gi_nI (by omega) (by omega), gi_nI (by omega) (by omega), nI_clamp (by omega), nI_clamp (by omega), a7, q3, w2, bp_s, gi_nI (by omega) (by omega), nI_clamp (by omega), a9]
    cases hb : b with
    | false =>
      rw [show (bI false) = (0 : Int32) from rfl, if_pos rfl]
      exact ih false (by rw [fitF, ← hI, hb, Bool.false_and])
    | true =>
      rw [show (bI true) = (1 : Int32) from rfl, if_neg (show ¬ (1 : Int32) = 0 by decide)]
      by_cases e : tl C P (kd (sj i)) (sr i) r = st i
      · rw [if_pos (by rw [e])]
        exact ih true (by rw [fitF, ← hI, hb, e]; simp)
      · rw [if_neg (by rw [nI_eq (by omega) (by omega)]; exact e)]
        exact ih false (by rw [fitF, ← hI, hb, beq_eq_false_iff_ne.mpr e]; rfl)
theorem layFitM {N C P J R hid ns : Nat} {kd sr sj st : Nat → Nat} {σ μ : St} (hG : RGm C P J R σ μ) (hNow : Now J R hid ns kd sr sj st σ μ) (hN : 5000 ≤ N) : ∃ ν, D_X12_layFit N μ = some ν ∧ FitM R (fitF C P kd sr sj st ns) ν ∧ KpM μ ν := by
  have l := hG.1.le
  unfold D_X12_layFit
  refine loopQ (S := St) (fun n i s => L_X12_layFit_2 N n (nI i) s) R (fun i s => (∀ r, r < i → s 35 r = bI (fitF C P kd sr sj st ns r)) ∧ KpM μ s) (fun o => ∃ ν, o = some ν ∧ FitM R (fitF C P kd sr sj st ns) ν ∧ KpM μ ν) ?_ ?_ N 0 μ (Nat.zero_le _) (by omega) ⟨fun r hr => absurd hr (Nat.not_lt_zero r), KpM.rfl⟩
  · intro n s ⟨i1, i2⟩
    have hG2 := hG.move (τ := σ) Kp.rfl i2
    show ∃ ν, L_X12_layFit_2 N (n + 1) (nI R) s = some ν ∧ _
    rw [L_X12_layFit_2, hG2.2.2.2.2.2.2.2.1, if_pos (by rw [nI_leI (by omega) (by omega)]; omega)]
    exact ⟨s, Eq.refl _, i1, i2⟩
  · intro n i s hi ⟨i1, i2⟩ ih
    have hG2 := hG.move (τ := σ) Kp.rfl i2
    have hN2 := hNow.move (τ := σ) Kp.rfl i2
    show ∃ ν, L_X12_layFit_2 N (n + 1) (nI i) s = some ν ∧ _
    rw [L_X12_layFit_2, hG2.2.2.2.2.2.2.2.1, if_neg (by rw [nI_leI (by omega) (by omega)]; omega), isFitM hG2 hN2 hN hi, bp_s, gi_nI (by omega) (by omega), gi_nI (by omega) (by omega), nI_1, nI_clamp (by omega)]
    have key : ∀ b : Bool, b = fitF C P kd sr sj st ns i → (∀ r, r < i + 1 → (pt s 35 i (bI b)) 35 r = bI (fitF C P kd sr sj st ns r)) ∧ KpM μ (pt s 35 i (bI b)) := fun b hb => by
      refine ⟨fun r hr => ?_, i2.pt (Or.inl (Eq.refl _))⟩
      show upd (s 35) i (bI b) r = _
      by_cases e : r = i
      · subst e; rw [upd_at, hb]
      · rw [upd_ne e]; exact i1 r (by omega)
    cases hb : fitF C P kd sr sj st ns i with
    | false =>
      rw [show (bI false) = (0 : Int32) from rfl, if_pos (Eq.refl _)]
      exact ih _ (key false hb.symm)
    | true =>
      rw [show (bI true) = (1 : Int32) from rfl, if_neg (show ¬ (1 : Int32) = 0 by decide)]
      exact ih _ (key true hb.symm)
theorem fitManyM {N R : Nat} {f : Nat → Bool} {μ : St} (h5 : μ 31 5 = nI R) (hR : R ≤ 216) (hF : FitM R f μ) (hN : 5000 ≤ N) : D_X12_fitMany N μ = some (nI (cntb f R)) := by
  unfold D_X12_fitMany
  refine loopQ (S := Nat) (fun n i s => L_X12_fitMany_4 N μ n (nI s) (nI i)) R (fun i s => s = cntb f i) (fun o => o = some (nI (cntb f R))) ?_ ?_ N 0 0 (Nat.zero_le _) (by omega) rfl
  · intro n s hI
    show L_X12_fitMany_4 N μ (n + 1) (nI s) (nI R) = _
    rw [L_X12_fitMany_4, h5, if_pos (by rw [nI_leI (by omega) (by omega)]; omega), hI]
  · intro n i s hi hI ih
    show L_X12_fitMany_4 N μ (n + 1) (nI s) (nI i) = _
    rw [L_X12_fitMany_4, h5, if_neg (by rw [nI_leI (by omega) (by omega)]; omega), gi_nI (by omega) (by omega), nI_clamp (by omega), hF i hi, nI_1]
    have e : nI s + bI (f i) = nI (s + (if f i then 1 else 0)) := by
      cases f i
      · exact nI_z s
      · exact nI_1 s
    rw [e]
    exact ih _ (by rw [cntb, hI])
