/-! BEST -/
/-- how many of those that fit a judge would tell t -/
def cn (C P kd sh R : Nat) (f : Nat → Bool) (t : Nat) : Nat := cntb (fun r => f r && (tl C P kd sh r == t)) R
theorem cn_le {C P kd sh R t : Nat} {f : Nat → Bool} : cn C P kd sh R f t ≤ R := cntb_le _ _
theorem cn_big {C P kd sh R t : Nat} {f : Nat → Bool} (h0 : 0 < C) (hp : P ≤ 3) (ht : 31 ≤ t) : cn C P kd sh R f t = 0 := by
  have : ∀ n, cntb (fun r => f r && (tl C P kd sh r == t)) n = 0 := by
    intro n
    induction n with
    | zero => rfl
    | succ n ih =>
      have := tl_le (C := C) (P := P) (kd := kd) (a := sh) (b := n) h0
      rw [cntb, ih, show (f n && (tl C P kd sh n == t)) = false by rw [beq_eq_false_iff_ne.mpr (by omega), Bool.and_false]]
      rfl
  exact this R
def mxb (g : Nat → Nat) : Nat → Nat
  | 0 => 0
  | n + 1 => max (mxb g n) (g n)
theorem mxb_le {g : Nat → Nat} {B n : Nat} (h : ∀ t, t < n → g t ≤ B) : mxb g n ≤ B := by
  induction n with
  | zero => exact Nat.zero_le _
  | succ n ih => exact Nat.max_le.mpr ⟨ih (fun t ht => h t (by omega)), h n (by omega)⟩
theorem mxb_ext {g : Nat → Nat} {m n : Nat} (h : m ≤ n) (hz : ∀ t, m ≤ t → g t = 0) : mxb g n = mxb g m := by
  induction n with
  | zero => rw [Nat.le_zero.mp h]
  | succ n ih =>
    rcases Nat.lt_or_ge m (n + 1) with q | q
    · rw [mxb, hz n (by omega), ih (by omega)]
      exact Nat.max_eq_left (Nat.zero_le _)
    · rw [show m = n + 1 by omega]
theorem sumb_ext {g : Nat → Nat} {m n : Nat} (h : m ≤ n) (hz : ∀ t, m ≤ t → g t = 0) : sumb g n = sumb g m := by
  induction n with
  | zero => rw [Nat.le_zero.mp h]
  | succ n ih =>
    rcases Nat.lt_or_ge m (n + 1) with q | q
    · rw [sumb, hz n (by omega), ih (by omega)]; rfl
    · rw [show m = n + 1 by omega]
theorem tallyX {N C P R kd sh : Nat} {f : Nat → Bool} {σ : St} (hT : TabX σ C P) (hp : P ≤ 3) (h0 : 2 ≤ C) (hc : C ≤ 6) (hR : R = C ^ P) (hk : kd < 5) (hsh : sh < R) (hN : 5000 ≤ N) (hPl : PoolX R f σ) :
    ∃ τ, D_X5_tally N σ kd (nI sh) = some τ ∧ (∀ t, t < 31 → τ 27 t = nI (cn C P kd sh R f t)) ∧ Kp [27] σ τ := by
  have l := pow_le hp hc
  have cR : cntb f R ≤ R := cntb_le _ _
  have second : ∀ s : St, Kp [27] σ s → (∀ t, t < 31 → s 27 t = 0) → ∃ τ, L_X5_tally_26 N kd (nI sh) N 0 s = some τ ∧ (∀ t, t < 31 → τ 27 t = nI (cn C P kd sh R f t)) ∧ Kp [27] σ τ := by
    intro s hs hz
    refine loopQ (S := St) (fun n i s => L_X5_tally_26 N kd (nI sh) n (nI i) s) (cntb f R) (fun i s => Kp [27] σ s ∧ ∃ b, b ≤ R ∧ cntb f b = i ∧ ∀ t, t < 31 → s 27 t = nI (cntb (fun r => f r && (tl C P kd sh r == t)) b)) (fun o => ∃ τ, o = some τ ∧ (∀ t, t < 31 → τ 27 t = nI (cn C P kd sh R f t)) ∧ Kp [27] σ τ) ?_ ?_ N 0 s (Nat.zero_le _) (by omega) ⟨hs, 0, Nat.zero_le _, rfl, fun t ht => hz t ht⟩
    · intro n s ⟨i1, b, b1, b2, b3⟩
      show ∃ τ, L_X5_tally_26 N kd (nI sh) (n + 1) (nI (cntb f R)) s = some τ ∧ _
      rw [L_X5_tally_26, i1 24 (by decide), hPl.1, if_pos (by rw [nI_leI (by omega) (by omega)]; omega)]
      exact ⟨s, rfl, fun t ht => by rw [b3 t ht, cntb_and b1 b2]; rfl, i1⟩
    · intro n i s hi ⟨i1, b, b1, b2, b3⟩ ih
      obtain ⟨r, hr, hfr, hri⟩ := cntb_surj hi
      have hbr : b ≤ r := by
        rcases Nat.lt_or_ge r b with q | q
        · have := cntb_lt q hfr; omega
        · exact q
      have t30 := tl_le (C := C) (P := P) (kd := kd) (a := sh) (b := r) (by omega)
      have e25 : s 25 i = nI r := by rw [i1 25 (by decide), ← hri]; exact hPl.2.1 r hr hfr
      show ∃ τ, L_X5_tally_26 N kd (nI sh) (n + 1) (nI i) s = some τ ∧ _
      rw [L_X5_tally_26, i1 24 (by decide), hPl.1, if_neg (by rw [nI_leI (by omega) (by omega)]; omega), gi_nI (by omega) (by omega), nI_clamp (by omega), e25, wordX (i1.tab (by decide) hT) hp h0 hc (by omega) (by omega) hk, bp_s, if_neg (nI_pos (by omega)), if_neg (show ¬ (31 : Int32) ≤ nI (tl C P kd sh r) from nI_ge (b := 31) (by omega) (by omega)), gi_nI (by omega) (by omega), gi_nI (by omega) (by omega), nI_clamp (by omega), b3 _ (by omega), nI_1 i, nI_1]
      refine ih _ ⟨fun k hk => ?_, r + 1, hr, by rw [cntb, hfr, hri]; rfl, fun t ht => ?_⟩
      · rw [pt_ne (fun e => hk (by rw [e]; decide))]
        exact i1 k hk
      · show upd (s 27) (tl C P kd sh r) _ t = _
        have e1 : cntb (fun r => f r && (tl C P kd sh r == t)) b = cntb (fun r => f r && (tl C P kd sh r == t)) r := cntb_and hbr (by omega)
        rw [cntb, hfr]
        by_cases e : t = tl C P kd sh r
        · rw [e, upd_at, ← e, e1, if_pos (by simp [e])]
        · rw [upd_ne e, b3 t ht, e1, if_neg (by simp; exact fun q => e q.symm)]
          rfl
  unfold D_X5_tally
  refine loopQ (S := St) (fun n i s => L_X5_tally_2 N kd (nI sh) n (nI i) s) 31 (fun i s => Kp [27] σ s ∧ ∀ t, t < i → s 27 t = 0) (fun o => ∃ τ, o = some τ ∧ (∀ t, t < 31 → τ 27 t = nI (cn C P kd sh R f t)) ∧ Kp [27] σ τ) ?_ ?_ N 0 σ (Nat.zero_le _) (by omega) ⟨Kp.rfl, fun t ht => absurd ht (Nat.not_lt_zero t)⟩
  · intro n s ⟨i1, i2⟩
    show ∃ τ, L_X5_tally_2 N kd (nI sh) (n + 1) (nI 31) s = some τ ∧ _
    rw [L_X5_tally_2, if_pos (by decide)]
    exact second s i1 i2
  · intro n i s hi ⟨i1, i2⟩ ih
    show ∃ τ, L_X5_tally_2 N kd (nI sh) (n + 1) (nI i) s = some τ ∧ _
    rw [L_X5_tally_2, if_neg (show ¬ (31 : Int32) ≤ nI i from nI_ge (b := 31) hi (by omega)), gi_nI hi (by omega), nI_clamp (by omega), nI_1]
    refine ih _ ⟨fun k hk => ?_, fun t ht => ?_⟩
    · rw [pt_ne (fun e => hk (by rw [e]; decide))]
      exact i1 k hk
    · show upd (s 27) i 0 t = 0
      by_cases e : t = i
      · subst e; exact upd_at
      · rw [upd_ne e]; exact i2 t (by omega)
theorem worstX {N C P R kd sh : Nat} {f : Nat → Bool} {σ : St} (hT : TabX σ C P) (hp : P ≤ 3) (h0 : 2 ≤ C) (hc : C ≤ 6) (hR : R = C ^ P) (hk : kd < 5) (hsh : sh < R) (hN : 5000 ≤ N) (hPl : PoolX R f σ) :
    ∃ τ, D_X5_worst N σ kd (nI sh) = some (nI (mxb (cn C P kd sh R f) 31), τ) ∧ Kp [27] σ τ := by
  have l := pow_le hp hc
  obtain ⟨τ, a1, a2, a3⟩ := tallyX hT hp h0 hc hR hk hsh hN hPl
  unfold D_X5_worst
  rw [a1, bp_s]
  refine ⟨τ, ?_, a3⟩
  refine loopQ (S := Nat) (fun n i s => L_X5_worst_22 N 31 n (nI s) (nI i) τ) 31 (fun i s => s = mxb (cn C P kd sh R f) i) (fun o => o = some (nI (mxb (cn C P kd sh R f) 31), τ)) ?_ ?_ N 0 0 (Nat.zero_le _) (by omega) rfl
  · intro n s hI
    show L_X5_worst_22 N 31 (n + 1) (nI s) (nI 31) τ = _
    rw [L_X5_worst_22, if_pos (by decide), hI]
  · intro n i s hi hI ih
    have c1 : cn C P kd sh R f i ≤ R := cn_le
    have c2 : mxb (cn C P kd sh R f) i ≤ R := mxb_le (fun t _ => cn_le)
    show L_X5_worst_22 N 31 (n + 1) (nI s) (nI i) τ = _
    rw [L_X5_worst_22, if_neg (show ¬ (31 : Int32) ≤ nI i from nI_ge (b := 31) hi (by omega)), gi_nI hi (by omega), nI_clamp (by omega), a2 i hi, nI_1]
    have e : (if nI s < nI (cn C P kd sh R f i) then nI (cn C P kd sh R f i) else nI s) = nI (max s (cn C P kd sh R f i)) := by
      by_cases q : s < cn C P kd sh R f i
      · rw [if_pos (nI_lt q (by omega)), Nat.max_eq_right (by omega)]
      · rw [if_neg (nI_nlt (by omega) (by omega)), Nat.max_eq_left (by omega)]
    rw [e]
    exact ih _ (by rw [mxb, hI])
theorem squaresX {N C P R kd sh : Nat} {f : Nat → Bool} {σ : St} (hT : TabX σ C P) (hp : P ≤ 3) (h0 : 2 ≤ C) (hc : C ≤ 6) (hR : R = C ^ P) (hk : kd < 5) (hsh : sh < R) (hN : 5000 ≤ N) (hPl : PoolX R f σ) :
    ∃ τ, D_X5_squares N σ kd (nI sh) = some (nI (sumb (fun t => cn C P kd sh R f t * cn C P kd sh R f t) 31), τ) ∧ Kp [27] σ τ := by
  obtain ⟨τ, a1, a2, a3⟩ := tallyX hT hp h0 hc hR hk hsh hN hPl
  unfold D_X5_squares
  rw [a1, bp_s]
  refine ⟨τ, ?_, a3⟩
  refine loopQ (S := Nat) (fun n i s => L_X5_squares_22 N 31 n (nI s) (nI i) τ) 31 (fun i s => s = sumb (fun t => cn C P kd sh R f t * cn C P kd sh R f t) i) (fun o => o = some (nI (sumb (fun t => cn C P kd sh R f t * cn C P kd sh R f t) 31), τ)) ?_ ?_ N 0 0 (Nat.zero_le _) (by omega) rfl
  · intro n s hI
    show L_X5_squares_22 N 31 (n + 1) (nI s) (nI 31) τ = _
    rw [L_X5_squares_22, if_pos (by decide), hI]
  · intro n i s hi hI ih
    show L_X5_squares_22 N 31 (n + 1) (nI s) (nI i) τ = _
    rw [L_X5_squares_22, if_neg (show ¬ (31 : Int32) ≤ nI i from nI_ge (b := 31) hi (by omega)), gi_nI hi (by omega), nI_clamp (by omega), a2 i hi, nI_1, pk_mul, nI_add]
    exact ih _ (by rw [sumb, hI])
theorem laySizesM {N C P J R kd sh : Nat} {f : Nat → Bool} {σ μ : St} (hG : RGm C P J R σ μ) (hR : 0 < R) (hk : kd < 5) (hsh : sh < R) (hN : 5000 ≤ N) (hF : FitM R f μ) :
    ∃ ν, D_X12_laySizes N μ (nI kd) (nI sh) = some ν ∧ (∀ t, t < 41 → ν 36 t = nI (cn C P kd sh R f t)) ∧ FitM R f ν ∧ KpM μ ν := by
  have l := hG.1.le
  have second : ∀ s : St, KpM μ s → FitM R f s → (∀ t, t < 41 → s 36 t = 0) → ∃ ν, L_X12_laySizes_23 N (nI kd) (nI sh) N 0 s = some ν ∧ (∀ t, t < 41 → ν 36 t = nI (cn C P kd sh R f t)) ∧ FitM R f ν ∧ KpM μ ν := by
    intro s hs hf hz
    refine loopQ (S := St) (fun n i s => L_X12_laySizes_23 N (nI kd) (nI sh) n (nI i) s) R (fun i s => KpM μ s ∧ FitM R f s ∧ ∀ t, t < 41 → s 36 t = nI (cntb (fun r => f r && (tl C P kd sh r == t)) i)) (fun o => ∃ ν, o = some ν ∧ (∀ t, t < 41 → ν 36 t = nI (cn C P kd sh R f t)) ∧ FitM R f ν ∧ KpM μ ν) ?_ ?_ N 0 s (Nat.zero_le _) (by omega) ⟨hs, hf, fun t ht => hz t ht⟩
    · intro n s ⟨i1, i2, i3⟩
      have hG2 := hG.move (τ := σ) Kp.rfl i1
      show ∃ ν, L_X12_laySizes_23 N (nI kd) (nI sh) (n + 1) (nI R) s = some ν ∧ _
      rw [L_X12_laySizes_23, hG2.2.2.2.2.2.2.2.1, if_pos (by rw [nI_leI (by omega) (by omega)]; omega)]
      exact ⟨s, rfl, i3, i2, i1⟩
    · intro n i s hi ⟨i1, i2, i3⟩ ih
      have hG2 := hG.move (τ := σ) Kp.rfl i1
      obtain ⟨-, w2, w3⟩ := tell_both (N := N) hG2 hN hsh hi hk
      show ∃ ν, L_X12_laySizes_23 N (nI kd) (nI sh) (n + 1) (nI i) s = some ν ∧ _
      rw [L_X12_laySizes_23, hG2.2.2.2.2.2.2.2.1, if_neg (by rw [nI_leI (by omega) (by omega)]; omega), gi_nI (by omega) (by omega), nI_clamp (by omega), i2 i hi, w2, bp_s, gi_nI (by omega) (by omega), gi_nI (by omega) (by omega), nI_clamp (by omega), i3 _ (by omega), nI_1 i, nI_1]
      cases hfi : f i with
      | false =>
        rw [show bI false = (0 : Int32) from rfl, if_neg (show ¬ (0 : Int32) = 1 by decide)]
        exact ih s ⟨i1, i2, fun t ht => by rw [i3 t ht, cntb, hfi]; rfl⟩
      | true =>
        rw [show bI true = (1 : Int32) from rfl, if_pos (Eq.refl _)]
        refine ih _ ⟨i1.pt (Or.inr (Or.inl (Eq.refl _))), fun r hr => i2 r hr, fun t ht => ?_⟩
        show upd (s 36) (tl C P kd sh i) _ t = _
        rw [cntb, hfi]
        by_cases e : t = tl C P kd sh i
        · rw [e, upd_at, if_pos (by simp)]
        · rw [upd_ne e, i3 t ht, if_neg (by simp; exact fun q => e q.symm)]
          rfl
  unfold D_X12_laySizes
  refine loopQ (S := St) (fun n i s => L_X12_laySizes_2 N (nI kd) (nI sh) n (nI i) s) 41 (fun i s => KpM μ s ∧ FitM R f s ∧ ∀ t, t < i → s 36 t = 0) (fun o => ∃ ν, o = some ν ∧ (∀ t, t < 41 → ν 36 t = nI (cn C P kd sh R f t)) ∧ FitM R f ν ∧ KpM μ ν) ?_ ?_ N 0 μ (Nat.zero_le _) (by omega) ⟨KpM.rfl, hF, fun t ht => absurd ht (Nat.not_lt_zero t)⟩
  · intro n s ⟨i1, i2, i3⟩
    show ∃ ν, L_X12_laySizes_2 N (nI kd) (nI sh) (n + 1) (nI 41) s = some ν ∧ _
    rw [L_X12_laySizes_2, if_pos (by decide)]
    exact second s i1 i2 i3
  · intro n i s hi ⟨i1, i2, i3⟩ ih
    show ∃ ν, L_X12_laySizes_2 N (nI kd) (nI sh) (n + 1) (nI i) s = some ν ∧ _
    rw [L_X12_laySizes_2, if_neg (show ¬ (41 : Int32) ≤ nI i from nI_ge (b := 41) hi (by omega)), gi_nI hi (by omega), nI_clamp (by omega), nI_1]
    refine ih _ ⟨i1.pt (Or.inr (Or.inl (Eq.refl _))), fun r hr => i2 r hr, fun t ht => ?_⟩
    show upd (s 36) i 0 t = 0
    by_cases e : t = i
    · subst e; exact upd_at
    · rw [upd_ne e]; exact i3 t (by omega)
theorem greatestM {N C P R kd sh : Nat} {f : Nat → Bool} {μ : St} (h0 : 0 < C) (hp : P ≤ 3) (hR : R ≤ 216) (hN : 5000 ≤ N) (hs : ∀ t, t < 41 → μ 36 t = nI (cn C P kd sh R f t)) : D_X12_greatest N μ = some (nI (mxb (cn C P kd sh R f) 31)) := by
  unfold D_X12_greatest
  rw [← mxb_ext (g := cn C P kd sh R f) (m := 31) (n := 41) (by omega) (fun t ht => cn_big h0 hp ht)]
  refine loopQ (S := Nat) (fun n i s => L_X12_greatest_4 N μ n (nI s) (nI i)) 41 (fun i s => s = mxb (cn C P kd sh R f) i) (fun o => o = some (nI (mxb (cn C P kd sh R f) 41))) ?_ ?_ N 0 0 (Nat.zero_le _) (by omega) rfl
  · intro n s hI
    show L_X12_greatest_4 N μ (n + 1) (nI s) (nI 41) = _
    rw [L_X12_greatest_4, if_pos (by decide), hI]
  · intro n i s hi hI ih
    have c1 : cn C P kd sh R f i ≤ R := cn_le
    have c2 : mxb (cn C P kd sh R f) i ≤ R := mxb_le (fun t _ => cn_le)
    show L_X12_greatest_4 N μ (n + 1) (nI s) (nI i) = _
    rw [L_X12_greatest_4, if_neg (show ¬ (41 : Int32) ≤ nI i from nI_ge (b := 41) hi (by omega)), gi_nI hi (by omega), gi_nI hi (by omega), nI_clamp (by omega), hs i hi, nI_1]
    by_cases q : cn C P kd sh R f i ≤ s
    · rw [if_pos (nI_le q (by omega))]
      exact ih s (by rw [mxb, ← hI, Nat.max_eq_left q])
    · rw [if_neg (nI_ge (by omega) (by omega))]
      exact ih _ (by rw [mxb, ← hI, Nat.max_eq_right (by omega)])
