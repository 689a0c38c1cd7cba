/-! how long it takes -/
def hlf (C P kd R row : Nat) : Nat → Nat → Bool
  | 0 => fun _ => true
  | k + 1 => fun r => hlf C P kd R row k r && (tl C P kd (am (rk C P kd R (hlf C P kd R row k)) (R - 1)) r == tl C P kd (am (rk C P kd R (hlf C P kd R row k)) (R - 1)) row)
theorem hlf_row {C P kd R row : Nat} (k : Nat) : hlf C P kd R row k row = true := by
  induction k with
  | zero => rfl
  | succ k ih =>
    show (hlf C P kd R row k row && (_ == _)) = true
    rw [ih, beq_self_eq_true]; rfl
theorem hlf_pos {C P kd R row : Nat} (h : row < R) (k : Nat) : 0 < cntb (hlf C P kd R row k) R := by
  have := cntb_lt h (hlf_row (C := C) (P := P) (kd := kd) (R := R) (row := row) k)
  omega
/-- the answer from step k on, d steps being left -/
def ansF (cnt : Nat → Nat) : Nat → Nat → Int32
  | 0, k => if cnt k = 1 then nI k else -1
  | d + 1, k => if cnt k = 1 then nI k else ansF cnt d (k + 1)
theorem ansF_s (cnt : Nat → Nat) (d k : Nat) : ansF cnt (d + 1) k = if cnt k = 1 then nI k else ansF cnt d (k + 1) := rfl
theorem longX {N C P R kd row : Nat} {σ : St} (hT : TabX σ C P) (hp : P ≤ 3) (h0 : 2 ≤ C) (hc : C ≤ 6) (hR : R = C ^ P) (hR0 : 0 < R) (hk : kd < 5) (hrow : row < R) (hN : 5000 ≤ N) (hPl : PoolX R (fun _ => true) σ) :
    ∃ τ, L_X11_howLong_57 N (nI row) kd N 0 σ = some (ansF (fun k => cntb (hlf C P kd R row k) R) 8 0, τ) ∧ Kp [24, 25, 26, 27] σ τ := by
  have l := pow_le hp hc
  refine loopQ (S := St) (fun n i s => L_X11_howLong_57 N (nI row) kd n (nI i) s) 8 (fun i s => PoolX R (hlf C P kd R row i) s ∧ Kp [24, 25, 26, 27] σ s ∧ ansF (fun k => cntb (hlf C P kd R row k) R) 8 0 = ansF (fun k => cntb (hlf C P kd R row k) R) (8 - i) i) (fun o => ∃ τ, o = some (ansF (fun k => cntb (hlf C P kd R row k) R) 8 0, τ) ∧ Kp [24, 25, 26, 27] σ τ) ?_ ?_ N 0 σ (Nat.zero_le _) (by omega) ⟨hPl, Kp.rfl, rfl⟩
  · intro n s ⟨i1, i2, i3⟩
    have cl : cntb (hlf C P kd R row 8) R ≤ R := cntb_le _ _
    show ∃ τ, L_X11_howLong_57 N (nI row) kd (n + 1) (nI 8) s = some _ ∧ _
    unfold L_X11_howLong_57 J_X11_howLong_116
    rw [if_pos (show (8 : Int32) ≤ nI 8 by decide), i1.1, i3, ansF]
    by_cases e : cntb (hlf C P kd R row 8) R = 1
    · rw [if_pos e, e, if_pos (show nI 1 = (1 : Int32) from rfl)]
      exact ⟨s, rfl, i2⟩
    · rw [if_neg e, if_neg (show ¬ nI (cntb (hlf C P kd R row 8) R) = (1 : Int32) from fun q => e ((nI_eq (b := 1) (by omega) (by omega)).mp q))]
      exact ⟨s, rfl, i2⟩
  · intro n i s hi ⟨i1, i2, i3⟩ ih
    have cl : cntb (hlf C P kd R row i) R ≤ R := cntb_le _ _
    have cp := hlf_pos (C := C) (P := P) (kd := kd) hrow i
    show ∃ τ, L_X11_howLong_57 N (nI row) kd (n + 1) (nI i) s = some _ ∧ _
    unfold L_X11_howLong_57 J_X11_howLong_116
    rw [if_neg (show ¬ (8 : Int32) ≤ nI i from nI_ge (b := 8) hi (by omega)), i1.1]
    obtain ⟨d, hd⟩ : ∃ d, 8 - i = d + 1 := ⟨8 - i - 1, by omega⟩
    rw [hd, ansF_s _ d i] at i3
    by_cases e : cntb (hlf C P kd R row i) R = 1
    · rw [e, if_pos (show nI 1 ≤ (1 : Int32) by decide), if_pos (show nI 1 = (1 : Int32) from rfl), i3, if_pos e]
      exact ⟨s, rfl, i2⟩
    · rw [if_neg e] at i3
      have hT2 := i2.tab (by decide) hT
      obtain ⟨τ, a1, a2⟩ := bestX (N := N) hT2 hp h0 hc hR hR0 hk hN i1 cp
      have aml := am_le (rk C P kd R (hlf C P kd R row i)) (R - 1)
      have hT3 := a2.tab (by decide) hT2
      have t30 := tl_le (C := C) (P := P) (kd := kd) (a := am (rk C P kd R (hlf C P kd R row i)) (R - 1)) (b := row) (by omega)
      obtain ⟨τ2, b1, b2, b3⟩ := keepX (N := N) (told := tl C P kd (am (rk C P kd R (hlf C P kd R row i)) (R - 1)) row) hT3 hp h0 hc hR hk (show am (rk C P kd R (hlf C P kd R row i)) (R - 1) < R by omega) (by omega) (by omega) (i1.kp a2)
      rw [if_neg (show ¬ nI (cntb (hlf C P kd R row i) R) ≤ (1 : Int32) from nI_ge (a := 1) (by omega) (by omega)), a1, bs_s, if_neg (show ¬ nI (am (rk C P kd R (hlf C P kd R row i)) (R - 1)) < (0 : Int32) from nI_pos (by omega)), wordX hT3 hp h0 hc (by omega) (by omega) hk, bp_s, b1, bp_s, nI_1]
      exact ih τ2 ⟨b2, (i2.trans (a2.mono (by decide))).trans (b3.mono (by decide)), by rw [i3]; congr 1; omega⟩
/-- those that fit and tell the same, on the reference's side -/
theorem filtM_long {N C P J R kd a t : Nat} {f : Nat → Bool} {σ μ : St} (hG : RGm C P J R σ μ) (hk : kd < 5) (ha : a < R) (ht : t < 1000) (hN : 5000 ≤ N) (hF : FitM R f μ) (kc : Int32 → St → Option (Int32 × St)) (x2 x3 : Int32) :
    ∃ ν, FitM R (fun r => f r && (tl C P kd a r == t)) ν ∧ KpM μ ν ∧ L_X12_longOf_51 N kc (nI kd) x2 x3 (nI a) (nI t) N 0 μ = bp (D_X12_fitMany N ν) (fun r6 => if r6 = (1 : Int32) then some (x3, ν) else kc (x3 + (1 : Int32)) ν) := by
  have l := hG.1.le
  refine loopQ (S := St) (fun n i s => L_X12_longOf_51 N kc (nI kd) x2 x3 (nI a) (nI t) n (nI i) s) R (fun i s => KpM μ s ∧ (∀ r, r < i → s 35 r = bI (f r && (tl C P kd a r == t))) ∧ ∀ r, r < R → i ≤ r → s 35 r = bI (f r)) (fun o => ∃ ν, FitM R (fun r => f r && (tl C P kd a r == t)) ν ∧ KpM μ ν ∧ o = bp (D_X12_fitMany N ν) (fun r6 => if r6 = (1 : Int32) then some (x3, ν) else kc (x3 + (1 : Int32)) ν)) ?_ ?_ N 0 μ (Nat.zero_le _) (by omega) ⟨KpM.rfl, fun r hr => absurd hr (Nat.not_lt_zero r), fun r hr _ => hF r hr⟩
  · intro n s ⟨i1, i2, i3⟩
    have hG2 := hG.move (τ := σ) Kp.rfl i1
    refine ⟨s, i2, i1, ?_⟩
    show L_X12_longOf_51 N kc (nI kd) x2 x3 (nI a) (nI t) (n + 1) (nI R) s = _
    rw [L_X12_longOf_51, hG2.2.2.2.2.2.2.2.1, if_pos (by rw [nI_leI (by omega) (by omega)]; omega)]
  · intro n i s hi ⟨i1, i2, i3⟩ ih
    have hG2 := hG.move (τ := σ) Kp.rfl i1
    obtain ⟨-, w2, w3⟩ := tell_both (N := N) hG2 hN ha hi hk
    have nxt : ∀ b : Bool, b = (f i && (tl C P kd a i == t)) → KpM μ (pt s 35 i (bI b)) ∧ (∀ r, r < i + 1 → (pt s 35 i (bI b)) 35 r = bI (f r && (tl C P kd a r == t))) ∧ ∀ r, r < R → i + 1 ≤ r → (pt s 35 i (bI b)) 35 r = bI (f r) := fun b hb => by
      refine ⟨i1.pt (Or.inl rfl), fun r hr => ?_, fun r hr hr2 => ?_⟩
      · show upd (s 35) i (bI b) r = _
        by_cases e : r = i
        · subst e; rw [upd_at, hb]
        · rw [upd_ne e]; exact i2 r (by omega)
      · show upd (s 35) i (bI b) r = _
        rw [upd_ne (by omega)]; exact i3 r hr (by omega)
    show ∃ ν, _ ∧ _ ∧ L_X12_longOf_51 N kc (nI kd) x2 x3 (nI a) (nI t) (n + 1) (nI i) s = _
    rw [L_X12_longOf_51, hG2.2.2.2.2.2.2.2.1, if_neg (by rw [nI_leI (by omega) (by omega)]; omega), gi_nI (by omega) (by omega), gi_nI (by omega) (by omega), gi_nI (by omega) (by omega), nI_clamp (by omega), i3 i hi (Nat.le_refl _), w2, bp_s, nI_1]
    cases hf : f i with
    | false =>
      rw [show bI false = (0 : Int32) from rfl, if_neg (show ¬ (0 : Int32) = 1 by decide)]
      exact ih _ (nxt false (by rw [hf]; rfl))
    | true =>
      rw [show bI true = (1 : Int32) from rfl, if_pos rfl]
      by_cases e : tl C P kd a i = t
      · rw [if_pos (by rw [e])]
        exact ih _ (nxt true (by rw [hf, e, beq_self_eq_true]; rfl))
      · rw [if_neg (by rw [nI_eq (by omega) (by omega)]; exact e)]
        exact ih _ (nxt false (by rw [hf, beq_eq_false_iff_ne.mpr e]; rfl))
theorem longM {N C P J R kd row : Nat} {σ μ : St} (hG : RGm C P J R σ μ) (hR0 : 0 < R) (hk : kd < 5) (hrow : row < R) (hN : 5000 ≤ N) :
    ∃ ν, D_X12_longOf N μ (nI kd) (nI row) = some (ansF (fun k => cntb (hlf C P kd R row k) R) 8 0, ν) ∧ KpM μ ν := by
  have l := hG.1.le
  have two := hG.1.two hR0
  have second : ∀ s : St, KpM μ s → FitM R (fun _ => true) s → ∃ ν, L_X12_longOf_25 N (nI kd) (nI row) N 1 s = some (ansF (fun k => cntb (hlf C P kd R row k) R) 8 0, ν) ∧ KpM μ ν := by
    intro s hs hf
    have c0 : cntb (hlf C P kd R row 0) R = R := cntb_all R
    refine loopQ (S := St) (fun n i s => L_X12_longOf_25 N (nI kd) (nI row) n (nI (i + 1)) s) 8 (fun i s => FitM R (hlf C P kd R row i) s ∧ KpM μ s ∧ cntb (hlf C P kd R row i) R ≠ 1 ∧ ansF (fun k => cntb (hlf C P kd R row k) R) 8 0 = ansF (fun k => cntb (hlf C P kd R row k) R) (8 - i) i) (fun o => ∃ ν, o = some (ansF (fun k => cntb (hlf C P kd R row k) R) 8 0, ν) ∧ KpM μ ν) ?_ ?_ N 0 s (Nat.zero_le _) (by omega) ⟨hf, hs, by omega, rfl⟩
    · intro n s ⟨i1, i2, i3, i4⟩
      show ∃ ν, L_X12_longOf_25 N (nI kd) (nI row) (n + 1) (nI 9) s = some _ ∧ _
      rw [L_X12_longOf_25, if_pos (by decide), i4, ansF, if_neg i3]
      exact ⟨s, rfl, i2⟩
    · intro n i s hi ⟨i1, i2, i3, i4⟩ ih
      have hG2 := hG.move (τ := σ) Kp.rfl i2
      have cp := hlf_pos (C := C) (P := P) (kd := kd) hrow i
      have aml := am_le (rk C P kd R (hlf C P kd R row i)) (R - 1)
      obtain ⟨ν, a1, a2, a3, -⟩ := bestM (N := N) hG2 hR0 hk hN i1 cp
      have hG3 := hG2.move (τ := σ) Kp.rfl a3
      obtain ⟨-, w2, w3⟩ := tell_both (N := N) hG3 hN (show am (rk C P kd R (hlf C P kd R row i)) (R - 1) < R by omega) hrow hk
      obtain ⟨ρ, b1, b2, b3⟩ := filtM_long (N := N) hG3 hk (show am (rk C P kd R (hlf C P kd R row i)) (R - 1) < R by omega) (show tl C P kd (am (rk C P kd R (hlf C P kd R row i)) (R - 1)) row < 1000 by omega) hN a2 (L_X12_longOf_25 N (nI kd) (nI row) n) (nI row) (nI (i + 1))
      have hG4 := hG3.move (τ := σ) Kp.rfl b2
      have cl : cntb (hlf C P kd R row (i + 1)) R ≤ R := cntb_le _ _
      have hfm := fitManyM (N := N) (f := hlf C P kd R row (i + 1)) hG4.2.2.2.2.2.2.2.1 (by omega) b1 hN
      obtain ⟨d, hd⟩ : ∃ d, 8 - i = d + 1 := ⟨8 - i - 1, by omega⟩
      rw [hd, ansF_s _ d i, if_neg i3] at i4
      show ∃ ν, L_X12_longOf_25 N (nI kd) (nI row) (n + 1) (nI (i + 1)) s = some _ ∧ _
      rw [L_X12_longOf_25, if_neg (show ¬ (9 : Int32) ≤ nI (i + 1) from nI_ge (b := 9) (by omega) (by omega)), a1, bs_s, w2, bp_s, b3, hfm, bp_s, nI_1]
      by_cases e : cntb (hlf C P kd R row (i + 1)) R = 1
      · rw [e, if_pos (show nI 1 = (1 : Int32) from rfl)]
        refine ⟨ρ, ?_, (i2.trans a3).trans b2⟩
        rw [i4]
        cases d with
        | zero => rw [ansF, if_pos e]
        | succ d => rw [ansF, if_pos e]
      · rw [if_neg (show ¬ nI (cntb (hlf C P kd R row (i + 1)) R) = (1 : Int32) from fun q => e ((nI_eq (b := 1) (by omega) (by omega)).mp q))]
        exact ih ρ ⟨b1, (i2.trans a3).trans b2, e, by rw [i4]; congr 1; omega⟩
  unfold D_X12_longOf
  refine loopQ (S := St) (fun n i s => L_X12_longOf_2 N (nI kd) (nI row) n (nI i) s) R (fun i s => KpM μ s ∧ ∀ r, r < i → s 35 r = 1) (fun o => ∃ ν, o = some (ansF (fun k => cntb (hlf C P kd R row k) R) 8 0, ν) ∧ KpM μ ν) ?_ ?_ N 0 μ (Nat.zero_le _) (by omega) ⟨KpM.rfl, fun r hr => absurd hr (Nat.not_lt_zero r)⟩
  · intro n s ⟨i1, i2⟩
    have hG2 := hG.move (τ := σ) Kp.rfl i1
    show ∃ ν, L_X12_longOf_2 N (nI kd) (nI row) (n + 1) (nI R) s = some _ ∧ _
    rw [L_X12_longOf_2, hG2.2.2.2.2.2.2.2.1, if_pos (by rw [nI_leI (by omega) (by omega)]; omega)]
    exact second s i1 i2
  · intro n i s hi ⟨i1, i2⟩ ih
    have hG2 := hG.move (τ := σ) Kp.rfl i1
    show ∃ ν, L_X12_longOf_2 N (nI kd) (nI row) (n + 1) (nI i) s = some _ ∧ _
    rw [L_X12_longOf_2, hG2.2.2.2.2.2.2.2.1, if_neg (by rw [nI_leI (by omega) (by omega)]; omega), gi_nI (by omega) (by omega), nI_clamp (by omega), nI_1]
    refine ih _ ⟨i1.pt (Or.inl rfl), fun r hr => ?_⟩
    show upd (s 35) i 1 r = 1
    by_cases e : r = i
    · subst e; exact upd_at
    · rw [upd_ne e]; exact i2 r (by omega)
theorem RGm.pos {C P J R : Nat} {σ μ : St} (hG : RGm C P J R σ μ) (hJ : 0 < J) : 0 < R := by
  rcases hG.1 with w | w
  · omega
  · rw [w.2.2.2.2.2.2]; exact Nat.pow_pos (by omega)
theorem q_howLong {N n : Nat} {σ μ : St} (hN : 5000 ≤ N) (h : RelE n σ μ) (x y : Int32) : Ok2 n (D_X11_howLong N σ x y) (D_X12_howLong N μ x y) := by
  have h0 := h
  obtain ⟨C, P, J, R, gr, hn, hp, hG, ⟨hid, ns, kd, sr, sj, st, hNow⟩, hI, hT⟩ := h
  have l := hG.1.le
  unfold D_X11_howLong D_X12_howLong
  rw [isJudge_X hG, isJudge_M hG, bp_s, bp_s, isRow_X hG, isRow_M hG, bp_s, bp_s]
  rcases tI_cases x (n := J) (by omega) with t | ⟨j, hj, rfl, t⟩
  · rw [t, if_pos rfl, if_pos rfl]
    exact Ok2.same h0
  · rw [t, if_neg (show ¬ (1 : Int32) = 0 by decide), if_neg (show ¬ (1 : Int32) = 0 by decide)]
    rcases tI_cases y (n := R) (by omega) with t | ⟨v, hv, rfl, t⟩
    · rw [t, if_pos rfl, if_pos rfl]
      exact Ok2.same h0
    · obtain ⟨bd, ld, pd, tr, t1, t2, t3, t4, t5, t6, t7, t8, t9, t10, t11, t12, t13, t14⟩ := hT
      rw [t, if_neg (show ¬ (1 : Int32) = 0 by decide), if_neg (show ¬ (1 : Int32) = 0 by decide), t8, t9]
      by_cases e : ld = 6
      · rw [e, if_neg (by decide), if_pos (by decide)]
        exact Ok2.same h0
      · rw [if_pos (show nI ld < (6 : Int32) from nI_lt (b := 6) (by omega) (by omega)), if_neg (show ¬ nI ld = (6 : Int32) from fun q => e ((nI_eq (b := 6) (by omega) (by omega)).mp q)), nI_1]
        have hR0 := hG.pos (by omega)
        obtain ⟨o1, o2, o3, o4, o5, o6, o7⟩ := hG.1.on hR0
        have hG1 : RGm C P J R (pt σ 0 13 (nI (ld + 1))) (pt μ 31 16 (nI (ld + 1))) := hG
        have hN1 : Now J R hid ns kd sr sj st (pt σ 0 13 (nI (ld + 1))) (pt μ 31 16 (nI (ld + 1))) := hNow
        have hE : RelE n (pt σ 0 13 (nI (ld + 1))) (pt μ 31 16 (nI (ld + 1))) := ⟨C, P, J, R, gr, hn, hp, hG1, ⟨hid, ns, kd, sr, sj, st, hN1⟩, hI, ⟨bd, ld + 1, pd, tr, t1, by omega, t3, t4, t5, t6, t7, rfl, rfl, t10, t11, t12, t13, t14⟩⟩
        obtain ⟨q1, q2, q3⟩ := hNow.1.2.2.2.2.1 j hj
        obtain ⟨τ, a1, a2, a3⟩ := fillX (N := N) hG1.2.2.2.1 (by omega) (by omega)
        have hTb := a3.tab (by decide) (hG1.2.2.2.2.2.2.2.2.2 hR0)
        obtain ⟨τ2, b1, b2⟩ := longX (N := N) hTb o2 o3 o4 o7 hR0 q1 hv hN a2
        obtain ⟨ν, c1, c2⟩ := longM (N := N) hG1 hR0 q1 hv hN
        rw [judgeAt_X hN1 (by omega) hj, bp_s, a1, bp_s, b1, gi_nI (by omega) (by omega), nI_clamp (by omega), q3, c1, bs_s]
        exact Ok2.moved hE ((kp3 a3).trans (b2.mono (by decide))) c2
