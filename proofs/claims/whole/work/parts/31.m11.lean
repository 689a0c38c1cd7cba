/-! which row is best -/
def am (rk : Nat → Nat) : Nat → Nat
  | 0 => 0
  | n + 1 => if rk (n + 1) < rk (am rk n) then n + 1 else am rk n
theorem am_le (rk : Nat → Nat) (n : Nat) : am rk n ≤ n := by
  induction n with
  | zero => exact Nat.le_refl 0
  | succ n ih => unfold am; split <;> omega
def rk (C P kd R : Nat) (f : Nat → Bool) (a : Nat) : Nat := 2 * mxb (cn C P kd a R f) 31 + (if f a then 0 else 1)
theorem rk_le {C P kd R a : Nat} {f : Nat → Bool} : rk C P kd R f a ≤ 2 * R + 1 := by
  have : mxb (cn C P kd a R f) 31 ≤ R := mxb_le (fun t _ => cn_le)
  unfold rk
  split <;> omega
theorem rk_half {C P kd R a : Nat} {f : Nat → Bool} : rk C P kd R f a / 2 = mxb (cn C P kd a R f) 31 := by
  unfold rk
  split <;> omega
theorem nI_t2 (a : Nat) : (2 : Int32) * nI a = nI (2 * a) := by rw [← pk_mul]; rfl
theorem PoolX.kp {R : Nat} {f : Nat → Bool} {σ τ : St} (h : PoolX R f σ) (hK : Kp [27] σ τ) : PoolX R f τ := by
  unfold PoolX at *
  rw [hK 24 (by decide), hK 25 (by decide), hK 26 (by decide)]
  exact h
theorem bestX {N C P R kd : Nat} {f : Nat → Bool} {σ : St} (hT : TabX σ C P) (hp : P ≤ 3) (h0 : 2 ≤ C) (hc : C ≤ 6) (hR : R = C ^ P) (hR0 : 0 < R) (hk : kd < 5) (hN : 5000 ≤ N) (hPl : PoolX R f σ) (hf : 0 < cntb f R) :
    ∃ τ, D_X5_bestRow N σ kd = some (nI (am (rk C P kd R f) (R - 1)), τ) ∧ Kp [27] σ τ := by
  have l := pow_le hp hc
  have cR : cntb f R ≤ R := cntb_le _ _
  unfold D_X5_bestRow
  refine loopQ (S := Int32 × Nat × St) (fun n i s => L_X5_bestRow_9 N kd n s.1 (nI s.2.1) (nI i) s.2.2) R (fun i s => (i = 0 → s.1 = -1 ∧ s.2.1 = 434) ∧ (0 < i → s.1 = nI (am (rk C P kd R f) (i - 1)) ∧ s.2.1 = rk C P kd R f (am (rk C P kd R f) (i - 1))) ∧ Kp [27] σ s.2.2) (fun o => ∃ τ, o = some (nI (am (rk C P kd R f) (R - 1)), τ) ∧ Kp [27] σ τ) ?_ ?_ N 0 (-1, 434, σ) (Nat.zero_le _) (by omega) ⟨fun _ => ⟨rfl, rfl⟩, fun q => by omega, Kp.rfl⟩
  · intro n s ⟨i1, i2, i3⟩
    show ∃ τ, L_X5_bestRow_9 N kd (n + 1) s.1 (nI s.2.1) (nI R) s.2.2 = some _ ∧ _
    rw [L_X5_bestRow_9, (i3.tab (by decide) hT).2.2.1, ← hR, if_pos (by rw [nI_leI (by omega) (by omega)]; omega), (i2 hR0).1]
    exact ⟨_, rfl, i3⟩
  · intro n i s hi ⟨i1, i2, i3⟩ ih
    have hT2 := i3.tab (by decide) hT
    obtain ⟨τ, a1, a2⟩ := worstX (N := N) hT2 hp h0 hc hR hk hi hN (hPl.kp i3)
    have wl : mxb (cn C P kd i R f) 31 ≤ R := mxb_le (fun t _ => cn_le)
    have e26 : τ 26 i = bI (f i) := by rw [a2 26 (by decide), i3 26 (by decide)]; exact hPl.2.2 i hi
    have sl : s.2.1 ≤ 434 := by
      rcases Nat.eq_zero_or_pos i with q | q
      · rw [(i1 q).2]; exact Nat.le_refl _
      · rw [(i2 q).2]
        have := rk_le (C := C) (P := P) (kd := kd) (R := R) (f := f) (a := am (rk C P kd R f) (i - 1))
        omega
    show ∃ τ, L_X5_bestRow_9 N kd (n + 1) s.1 (nI s.2.1) (nI i) s.2.2 = some _ ∧ _
    unfold L_X5_bestRow_9 J_X5_bestRow_52
    rw [hT2.2.2.1, ← hR, if_neg (by rw [nI_leI (by omega) (by omega)]; omega), i3 24 (by decide), hPl.1, if_neg (nI_nle hf (by omega)), a1, bs_s, gi_nI (by omega) (by omega), nI_clamp (by omega), e26, nI_t2, nI_1 i, nI_1, nI_z]
    have rkl := rk_le (C := C) (P := P) (kd := kd) (R := R) (f := f) (a := i)
    have step : ∀ v : Nat, v = rk C P kd R f i → ∃ τ', (if nI s.2.1 ≤ nI v then L_X5_bestRow_9 N kd n s.1 (nI s.2.1) (nI (i + 1)) τ else L_X5_bestRow_9 N kd n (nI i) (nI v) (nI (i + 1)) τ) = some (nI (am (rk C P kd R f) (R - 1)), τ') ∧ Kp [27] σ τ' := by
      intro v hv
      by_cases q : s.2.1 ≤ v
      · rw [if_pos (nI_le q (by omega))]
        have ip : 0 < i := by
          rcases Nat.eq_zero_or_pos i with z | z
          · have := (i1 z).2; omega
          · exact z
        refine ih (s.1, s.2.1, τ) ⟨fun z => by omega, fun _ => ?_, i3.trans a2⟩
        obtain ⟨j, rfl⟩ : ∃ j, i = j + 1 := ⟨i - 1, by omega⟩
        have := i2 ip
        rw [Nat.add_sub_cancel] at *
        have e : am (rk C P kd R f) (j + 1) = am (rk C P kd R f) j := by
          rw [am, if_neg (by rw [← hv, ← this.2]; omega)]
        show s.1 = nI (am (rk C P kd R f) (j + 1)) ∧ s.2.1 = rk C P kd R f (am (rk C P kd R f) (j + 1))
        rw [e]
        exact this
      · rw [if_neg (nI_ge (by omega) (by omega))]
        refine ih (nI i, v, τ) ⟨fun z => by omega, fun _ => ?_, i3.trans a2⟩
        show nI i = nI (am (rk C P kd R f) (i + 1 - 1)) ∧ v = rk C P kd R f (am (rk C P kd R f) (i + 1 - 1))
        have e : am (rk C P kd R f) i = i := by
          rcases Nat.eq_zero_or_pos i with z | z
          · rw [z]; rfl
          · obtain ⟨j, rfl⟩ : ∃ j, i = j + 1 := ⟨i - 1, by omega⟩
            have := i2 z
            rw [Nat.add_sub_cancel] at this
            rw [am, if_pos (by rw [← hv, ← this.2]; omega)]
        rw [Nat.add_sub_cancel, e]
        exact ⟨rfl, hv⟩
    cases hfi : f i with
    | false =>
      rw [show bI false = (0 : Int32) from rfl, if_pos (Eq.refl _)]
      exact step (2 * mxb (cn C P kd i R f) 31 + 1) (by unfold rk; rw [hfi, if_neg (by decide)])
    | true =>
      rw [show bI true = (1 : Int32) from rfl, if_neg (show ¬ (1 : Int32) = 0 by decide)]
      exact step (2 * mxb (cn C P kd i R f) 31) (by unfold rk; rw [hfi, if_pos (Eq.refl _), Nat.add_zero])
theorem bestX0 {N C P R kd : Nat} {f : Nat → Bool} {σ : St} (hT : TabX σ C P) (hp : P ≤ 3) (hc : C ≤ 6) (hR : R = C ^ P) (hR0 : 0 < R) (hN : 5000 ≤ N) (hPl : PoolX R f σ) (hf : cntb f R = 0) : D_X5_bestRow N σ kd = some (-1, σ) := by
  have l := pow_le hp hc
  obtain ⟨m, rfl⟩ : ∃ m, N = m + 1 := ⟨N - 1, by omega⟩
  unfold D_X5_bestRow
  rw [L_X5_bestRow_9, hT.2.2.1, ← hR, if_neg (nI_nle hR0 (by omega)), hPl.1, hf, if_pos (by decide)]
theorem bestM {N C P J R kd : Nat} {f : Nat → Bool} {σ μ : St} (hG : RGm C P J R σ μ) (hR0 : 0 < R) (hk : kd < 5) (hN : 5000 ≤ N) (hF : FitM R f μ) (hf : 0 < cntb f R) :
    ∃ ν, D_X12_bestBy N μ (nI kd) = some (nI (am (rk C P kd R f) (R - 1)), ν) ∧ FitM R f ν ∧ KpM μ ν ∧ ν 31 14 = nI (mxb (cn C P kd (am (rk C P kd R f) (R - 1)) R f) 31) := by
  have l := hG.1.le
  obtain ⟨o1, o2, o3, o4, o5, o6, o7⟩ := hG.1.on hR0
  have cR : cntb f R ≤ R := cntb_le _ _
  unfold D_X12_bestBy
  refine loopQ (S := Int32 × Nat × St) (fun n i s => L_X12_bestBy_9 N (nI kd) n s.1 (nI s.2.1) (nI i) s.2.2) R (fun i s => (i = 0 → s.1 = -1 ∧ s.2.1 = 1000) ∧ (0 < i → s.1 = nI (am (rk C P kd R f) (i - 1)) ∧ s.2.1 = rk C P kd R f (am (rk C P kd R f) (i - 1))) ∧ FitM R f s.2.2 ∧ KpM μ s.2.2) (fun o => ∃ ν, o = some (nI (am (rk C P kd R f) (R - 1)), ν) ∧ FitM R f ν ∧ KpM μ ν ∧ ν 31 14 = nI (mxb (cn C P kd (am (rk C P kd R f) (R - 1)) R f) 31)) ?_ ?_ N 0 (-1, 1000, μ) (Nat.zero_le _) (by omega) ⟨fun _ => ⟨rfl, rfl⟩, fun q => by omega, hF, KpM.rfl⟩
  · intro n s ⟨i1, i2, i3, i4⟩
    have hG2 := hG.move (τ := σ) Kp.rfl i4
    have rkl := rk_le (C := C) (P := P) (kd := kd) (R := R) (f := f) (a := am (rk C P kd R f) (R - 1))
    have aml := am_le (rk C P kd R f) (R - 1)
    show ∃ ν, L_X12_bestBy_9 N (nI kd) (n + 1) s.1 (nI s.2.1) (nI R) s.2.2 = some _ ∧ _
    unfold L_X12_bestBy_9 J_X12_bestBy_82
    rw [hG2.2.2.2.2.2.2.2.1, if_pos (by rw [nI_leI (by omega) (by omega)]; omega), (i2 hR0).1, (i2 hR0).2, if_neg (show ¬ nI (am (rk C P kd R f) (R - 1)) = (-1 : Int32) from fun q => by
      have := nI_pos (n := am (rk C P kd R f) (R - 1)) (by omega)
      rw [q] at this
      exact absurd this (by decide)), show nI (rk C P kd R f (am (rk C P kd R f) (R - 1))) / (2 : Int32) = nI (rk C P kd R f (am (rk C P kd R f) (R - 1)) / 2) from pk_div (d := 2) (by omega) (by omega) (by omega), rk_half]
    refine ⟨_, rfl, i3, ⟨fun k hk => ?_, fun j hj => ?_⟩, rfl⟩
    · rw [pt_ne (fun e => hk (by rw [e]; decide))]
      exact i4.1 k hk
    · show upd (s.2.2 31) 14 _ j = _
      rw [upd_ne (fun e => hj (by rw [e]; decide))]
      exact i4.2 j hj
  · intro n i s hi ⟨i1, i2, i3, i4⟩ ih
    have hG2 := hG.move (τ := σ) Kp.rfl i4
    obtain ⟨ν, a1, a2, a3, a4⟩ := laySizesM (N := N) hG2 hR0 hk hi hN i3
    have wl : mxb (cn C P kd i R f) 31 ≤ R := mxb_le (fun t _ => cn_le)
    have sl : s.2.1 ≤ 1000 := by
      rcases Nat.eq_zero_or_pos i with q | q
      · rw [(i1 q).2]; exact Nat.le_refl _
      · rw [(i2 q).2]
        have := rk_le (C := C) (P := P) (kd := kd) (R := R) (f := f) (a := am (rk C P kd R f) (i - 1))
        omega
    have rkl := rk_le (C := C) (P := P) (kd := kd) (R := R) (f := f) (a := i)
    have pr : (nI (2 * mxb (cn C P kd i R f) 31 + 1)) - bI (f i) = nI (rk C P kd R f i) := by
      unfold rk
      cases f i with
      | false =>
        show _ - (0 : Int32) = _
        rw [nI_lit0, pk_sub (Nat.zero_le _)]; rfl
      | true =>
        show _ - (1 : Int32) = _
        rw [nI_lit1, pk_sub (by omega)]; rfl
    show ∃ ν, L_X12_bestBy_9 N (nI kd) (n + 1) s.1 (nI s.2.1) (nI i) s.2.2 = some _ ∧ _
    unfold L_X12_bestBy_9 J_X12_bestBy_62
    rw [hG2.2.2.2.2.2.2.2.1, if_neg (by rw [nI_leI (by omega) (by omega)]; omega), fitManyM hG2.2.2.2.2.2.2.2.1 (by omega) i3 hN, bp_s, if_neg (nI_nle hf (by omega)), a1, bp_s, greatestM (by omega) o2 (by omega) hN a2, bp_s, gi_nI (by omega) (by omega), nI_clamp (by omega), a3 i hi, nI_t2, nI_1 (2 * mxb (cn C P kd i R f) 31), pr, nI_1 i]
    by_cases q : s.2.1 ≤ rk C P kd R f i
    · rw [if_pos (nI_le q (by omega)), if_pos (nI_le q (by omega))]
      have ip : 0 < i := by
        rcases Nat.eq_zero_or_pos i with z | z
        · have := (i1 z).2; omega
        · exact z
      refine ih (s.1, s.2.1, ν) ⟨fun z => by omega, fun _ => ?_, a3, i4.trans a4⟩
      obtain ⟨j, rfl⟩ : ∃ j, i = j + 1 := ⟨i - 1, by omega⟩
      have := i2 ip
      rw [Nat.add_sub_cancel] at *
      have e : am (rk C P kd R f) (j + 1) = am (rk C P kd R f) j := by
        rw [am, if_neg (by rw [← this.2]; omega)]
      show s.1 = nI (am (rk C P kd R f) (j + 1)) ∧ s.2.1 = rk C P kd R f (am (rk C P kd R f) (j + 1))
      rw [e]
      exact this
    · rw [if_neg (nI_ge (by omega) (by omega)), if_neg (nI_ge (by omega) (by omega))]
      refine ih (nI i, rk C P kd R f i, ν) ⟨fun z => by omega, fun _ => ?_, a3, i4.trans a4⟩
      show nI i = nI (am (rk C P kd R f) (i + 1 - 1)) ∧ rk C P kd R f i = rk C P kd R f (am (rk C P kd R f) (i + 1 - 1))
      have e : am (rk C P kd R f) i = i := by
        rcases Nat.eq_zero_or_pos i with z | z
        · rw [z]; rfl
        · obtain ⟨j, rfl⟩ : ∃ j, i = j + 1 := ⟨i - 1, by omega⟩
          have := i2 z
          rw [Nat.add_sub_cancel] at this
          rw [am, if_pos (by rw [← this.2]; omega)]
      rw [Nat.add_sub_cancel, e]
      exact ⟨rfl, rfl⟩
theorem bestM0 {N C P J R kd : Nat} {f : Nat → Bool} {σ μ : St} (hG : RGm C P J R σ μ) (hR0 : 0 < R) (hN : 5000 ≤ N) (hF : FitM R f μ) (hf : cntb f R = 0) : D_X12_bestBy N μ (nI kd) = some (-1, pt μ 31 14 0) := by
  have l := hG.1.le
  have hm := fitManyM (N := N) hG.2.2.2.2.2.2.2.1 (by omega) hF hN
  obtain ⟨m, rfl⟩ : ∃ m, N = m + 1 := ⟨N - 1, by omega⟩
  unfold D_X12_bestBy L_X12_bestBy_9 J_X12_bestBy_82
  rw [hG.2.2.2.2.2.2.2.1, if_neg (nI_nle hR0 (by omega)), hm, bp_s, hf, if_pos (by decide), if_pos (Eq.refl _)]
theorem q_best {N n : Nat} {σ μ : St} (hN : 5000 ≤ N) (h : RelE n σ μ) (x y : Int32) : Ok2 n (D_X11_best N σ x y) (D_X12_best N μ x y) := by
  have h0 := h
  obtain ⟨C, P, J, R, gr, hn, hp, hG, ⟨hid, ns, kd, sr, sj, st, hNow⟩, hI, hT⟩ := h
  have l := hG.1.le
  unfold D_X11_best D_X12_best
  rw [isJudge_X hG, isJudge_M hG, bp_s, bp_s, in_0l y (1 : Int64) (n := 2) rfl, bp_s]
  rcases tI_cases x (n := J) (by omega) with t | ⟨j, hj, rfl, t⟩
  · rw [t, if_pos rfl, if_pos rfl]
    exact Ok2.same h0
  · rw [t, if_neg (show ¬ (1 : Int32) = 0 by decide), if_neg (show ¬ (1 : Int32) = 0 by decide)]
    rcases tI_cases y (n := 2) (by omega) with t | ⟨v, hv, rfl, t⟩
    · rw [t, if_pos rfl]
      by_cases c1 : y < 0
      · rw [if_pos c1]; exact Ok2.same h0
      · rw [if_neg c1]
        by_cases c2 : y ≤ 1
        · obtain ⟨q, hq, rfl⟩ := nI_of c1
          rw [tI_nI (by have := (nI_leI (b := 1) hq (by omega)).mp c2; omega) (by omega)] at t
          exact absurd t (by decide)
        · rw [if_neg c2]; exact Ok2.same h0
    · obtain ⟨bd, ld, pd, tr, t1, t2, t3, t4, t5, t6, t7, t8, t9, t10, t11, t12, t13, t14⟩ := hT
      rw [t, if_neg (nI_pos (by omega)), if_pos (show nI v ≤ (1 : Int32) from nI_le (b := 1) (by omega) (by omega)), if_neg (show ¬ (1 : Int32) = 0 by decide), t6, t7]
      by_cases e : bd = 24
      · rw [e, if_neg (by decide), if_pos (by decide)]
        exact Ok2.same h0
      · rw [if_pos (show nI bd < (24 : Int32) from nI_lt (b := 24) (by omega) (by omega)), if_neg (show ¬ nI bd = (24 : Int32) from fun q => e ((nI_eq (b := 24) (by omega) (by omega)).mp q)), nI_1]
        have hR0 : 0 < R := by
          rcases Nat.eq_zero_or_pos R with q | q
          · rcases hG.1 with w | w
            · omega
            · exact absurd q (by rw [w.2.2.2.2.2.2]; exact Nat.ne_of_gt (Nat.pow_pos (by omega)))
          · exact q
        obtain ⟨o1, o2, o3, o4, o5, o6, o7⟩ := hG.1.on hR0
        have hG1 : RGm C P J R (pt σ 0 12 (nI (bd + 1))) (pt μ 31 15 (nI (bd + 1))) := hG
        have hN1 : Now J R hid ns kd sr sj st (pt σ 0 12 (nI (bd + 1))) (pt μ 31 15 (nI (bd + 1))) := hNow
        have hE : RelE n (pt σ 0 12 (nI (bd + 1))) (pt μ 31 15 (nI (bd + 1))) := ⟨C, P, J, R, gr, hn, hp, hG1, ⟨hid, ns, kd, sr, sj, st, hN1⟩, hI, ⟨bd + 1, ld, pd, tr, by omega, t2, t3, t4, t5, rfl, rfl, t8, t9, t10, t11, t12, t13, t14⟩⟩
        obtain ⟨q1, q2, q3⟩ := hNow.1.2.2.2.2.1 j hj
        obtain ⟨τ, ν, a1, -, a3, a4, a5, a6, a7⟩ := left_both (N := N) hG1 hR0 hN1 hN
        have hG2 := hG1.move a6 a7
        have hN2 := hN1.move a6 a7
        have hTb := hG2.2.2.2.2.2.2.2.2.2 hR0
        have e33 : ν 33 j = nI (kd j) := (hN2.1.2.2.2.2.1 j hj).2.2
        rw [a1, bs_s, judgeAt_X hN2 (by omega) hj, bp_s, a3, bp_s, gi_nI (by omega) (by omega), nI_clamp (by omega), e33]
        rcases Nat.eq_zero_or_pos (cntb (fitF C P kd sr sj st ns) R) with z | z
        · rw [bestX0 hTb o2 o4 o7 hR0 hN a4 z, bs_s, bestM0 hG2 hR0 hN a5 z, bs_s]
          have kM : KpM (pt μ 31 15 (nI (bd + 1))) (pt ν 31 14 0) := ⟨fun k hk => by rw [pt_ne (fun e => hk (by rw [e]; decide))]; exact a7.1 k hk, fun i hi => by
            show upd (ν 31) 14 0 i = _
            rw [upd_ne (fun e => hi (by rw [e]; decide))]; exact a7.2 i hi⟩
          rcases (show v = 0 ∨ v = 1 by omega) with rfl | rfl
          · rw [if_pos (show nI 0 = (0 : Int32) from rfl), if_pos (show nI 0 = (0 : Int32) from rfl)]
            exact Ok2.moved hE a6 kM
          · rw [if_neg (show ¬ nI 1 = (0 : Int32) by decide), if_neg (show ¬ nI 1 = (0 : Int32) by decide), if_pos rfl]
            exact Ok2.moved hE a6 kM
        · have aml := am_le (rk C P (kd j) R (fitF C P kd sr sj st ns)) (R - 1)
          obtain ⟨τ2, b1, b2⟩ := bestX (N := N) hTb o2 o3 o4 o7 hR0 q1 hN a4 z
          obtain ⟨ν2, c1, c2, c3, c4⟩ := bestM (N := N) hG2 hR0 q1 hN a5 z
          have b2' : Kp [9, 24, 25, 26, 27, 30] τ τ2 := b2.mono (by decide)
          rw [b1, bs_s, c1, bs_s]
          rcases (show v = 0 ∨ v = 1 by omega) with rfl | rfl
          · rw [if_pos (show nI 0 = (0 : Int32) from rfl), if_pos (show nI 0 = (0 : Int32) from rfl)]
            exact Ok2.moved hE (a6.trans b2') (a7.trans c3)
          · obtain ⟨τ3, d1, d2⟩ := worstX (N := N) (b2.tab (by decide) hTb) o2 o3 o4 o7 q1 (show am (rk C P (kd j) R (fitF C P kd sr sj st ns)) (R - 1) < R by omega) hN (a4.kp b2)
            rw [if_neg (show ¬ nI 1 = (0 : Int32) by decide), if_neg (show ¬ nI 1 = (0 : Int32) by decide), if_neg (show ¬ nI (am (rk C P (kd j) R (fitF C P kd sr sj st ns)) (R - 1)) = (-1 : Int32) from fun q => by
              have := nI_pos (n := am (rk C P (kd j) R (fitF C P kd sr sj st ns)) (R - 1)) (by omega)
              rw [q] at this
              exact absurd this (by decide)), judgeAt_X (hN2.move b2' KpM.rfl) (by omega) hj, bp_s, d1, bs_s, c4]
            exact Ok2.moved hE ((a6.trans b2').trans (d2.mono (by decide))) (a7.trans c3)
