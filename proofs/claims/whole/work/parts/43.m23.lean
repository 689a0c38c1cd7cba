/-! digest -/
theorem rest_both {N C P J R hid ns r j v : Nat} {kd sr sj st : Nat → Nat} {σ μ : St} (hG : RGm C P J R σ μ) (hR0 : 0 < R) (hNow : Now J R hid ns kd sr sj st σ μ) (hr : r < R) (hj : j < J) (hv : v < 2) (hN : 5000 ≤ N) :
    ∃ w τ ν, D_X11_rest N σ (nI r) (nI j) (nI v) = some (w, τ) ∧ D_X12_restOf N μ (nI r) (nI j) (nI v) = some (w, ν) ∧ Kp [9, 24, 25, 26, 27, 30] σ τ ∧ KpM μ ν := by
  have l := hG.1.le
  unfold D_X11_rest
  rw [isRow_X hG, bp_s, isJudge_X hG, bp_s, tI_nI hr (by omega), tI_nI hj (by omega), if_neg (show ¬ (1 : Int32) = 0 by decide), if_neg (show ¬ (1 : Int32) = 0 by decide)]
  obtain ⟨o1, o2, o3, o4, o5, o6, o7⟩ := hG.1.on hR0
  obtain ⟨q1, q2, q3⟩ := hNow.1.2.2.2.2.1 j hj
  obtain ⟨τ, ν, a1, -, -, a4, -, a6, -⟩ := left_both (N := N) hG hR0 hNow hN
  obtain ⟨ρ, m1, m2, m3⟩ := restM (N := N) hG hR0 hNow hr hj hN (nI v)
  have cl : cntb (fitF C P kd sr sj st ns) R ≤ R := cntb_le _ _
  have sl := sq_le (C := C) (P := P) (kd := kd j) (sh := r) (R := R) (f := fitF C P kd sr sj st ns) (by omega)
  have hGx := hG.move a6 (ν := μ) KpM.rfl
  have hNx := hNow.move a6 (ν := μ) KpM.rfl
  have h5 : ρ 31 5 = nI R := (hG.move (τ := σ) Kp.rfl m1).2.2.2.2.2.2.2.1
  rw [if_neg (nI_pos (by omega)), if_pos (show nI v ≤ (1 : Int32) from nI_le (b := 1) (by omega) (by omega)), a1, bs_s, m3]
  rcases Nat.eq_zero_or_pos (cntb (fitF C P kd sr sj st ns) R) with zz | zz
  · rw [zz, if_pos (show nI 0 = (0 : Int32) from rfl), if_pos (sq_zero zz)]
    exact ⟨_, _, _, rfl, rfl, a6, m1⟩
  · have sp := sq_pos (C := C) (P := P) (kd := kd j) (sh := r) (by omega) o2 zz
    obtain ⟨τ2, b1, b2⟩ := squaresX (N := N) (hGx.2.2.2.2.2.2.2.2.2 hR0) o2 o3 o4 o7 q1 hr hN a4
    have e24 : τ2 24 2 = nI (cntb (fitF C P kd sr sj st ns) R) := (a4.kp b2).1
    have gp : 0 < Nat.gcd (sq C P (kd j) r R (fitF C P kd sr sj st ns)) (cntb (fitF C P kd sr sj st ns) R) := Nat.gcd_pos_of_pos_right _ zz
    have gl : Nat.gcd (sq C P (kd j) r R (fitF C P kd sr sj st ns)) (cntb (fitF C P kd sr sj st ns) R) ≤ cntb (fitF C P kd sr sj st ns) R := Nat.gcd_le_right _ zz
    have cd : D_X11_commonDivisor N (nI (sq C P (kd j) r R (fitF C P kd sr sj st ns))) (nI (cntb (fitF C P kd sr sj st ns) R)) = some (nI (Nat.gcd (sq C P (kd j) r R (fitF C P kd sr sj st ns)) (cntb (fitF C P kd sr sj st ns) R))) := by
      unfold D_X11_commonDivisor
      have := cdX (N := N) 8 (sq C P (kd j) r R (fitF C P kd sr sj st ns)) (cntb (fitF C P kd sr sj st ns) R) 0 N (by omega) (by omega) (by omega) (by omega) (by omega)
      rw [show (0 : Int32) = nI 0 from rfl, this]
      unfold J_X11_commonDivisor_34
      rw [if_neg (show ¬ nI (Nat.gcd (sq C P (kd j) r R (fitF C P kd sr sj st ns)) (cntb (fitF C P kd sr sj st ns) R)) < (1 : Int32) from nI_nlt (b := 1) (by omega) (by omega))]
    have b1' : D_X5_squares N τ (kd j) (nI r) = some (nI (sq C P (kd j) r R (fitF C P kd sr sj st ns)), τ2) := b1
    rw [if_neg (nI_ne0 zz (by omega)), if_neg (by omega), judgeAt_X hNx (by omega) hj, bp_s, b1', bs_s, e24, cd, bp_s]
    unfold J_X11_rest_85 finR
    rw [gz_nI gp (by omega), gz_nI gp (by omega), gz_nI gp (by omega), fitManyM h5 (by omega) m2 hN, bp_s, gz_nI gp (by omega)]
    rcases (show v = 0 ∨ v = 1 by omega) with rfl | rfl
    · rw [if_pos (show nI 0 = (0 : Int32) from rfl), if_pos (show nI 0 = (0 : Int32) from rfl)]
      exact ⟨_, _, _, rfl, rfl, a6.trans (b2.mono (by decide)), m1⟩
    · rw [if_neg (show ¬ nI 1 = (0 : Int32) by decide), if_neg (show ¬ nI 1 = (0 : Int32) by decide)]
      exact ⟨_, _, _, rfl, rfl, a6.trans (b2.mono (by decide)), m1⟩
theorem fits0_both {N C P J R hid ns : Nat} {kd sr sj st : Nat → Nat} {σ μ : St} (hG : RGm C P J R σ μ) (hR : 0 < R) (hNow : Now J R hid ns kd sr sj st σ μ) (hN : 5000 ≤ N) :
    ∃ w τ ν, D_X11_fits N σ 0 = some (w, τ) ∧ D_X12_fitsOf N μ 0 = some (w, ν) ∧ Kp [9, 24, 25, 26, 27, 30] σ τ ∧ KpM μ ν := by
  have l := hG.1.le
  obtain ⟨τ, ν, a1, -, a3, a4, a5, a6, a7⟩ := left_both (N := N) hG hR hNow hN
  have h5 : ν 31 5 = nI R := (hG.move (τ := σ) Kp.rfl a7).2.2.2.2.2.2.2.1
  have cl : cntb (fitF C P kd sr sj st ns) R ≤ R := cntb_le _ _
  obtain ⟨f1, f2⟩ := fitsOfM (N := N) h5 (by omega) a5 hN 0 (by omega)
  unfold D_X11_fits D_X12_fitsOf
  rw [if_pos (show (0 : Int32) ≤ 0 by decide), gameOn_X hG, bp_s, if_neg (show ¬ R = 0 by omega), if_neg (show ¬ (1 : Int32) = 0 by decide), a1, a3, bs_s, bp_s]
  rcases Nat.lt_or_ge 0 (cntb (fitF C P kd sr sj st ns) R) with q | q
  · obtain ⟨r, r1, r2, r3, r4⟩ := f1 q
    rw [if_neg (show ¬ nI (cntb (fitF C P kd sr sj st ns) R) ≤ (0 : Int32) from nI_ge (a := 0) q (by omega)), show (0 : Int32) = nI 0 from rfl, gi_nI (i := 0) (by omega) (by omega), nI_clamp (by omega)]
    rw [show τ 25 0 = nI r by have := a4.2.1 r r1 r2; rw [r3] at this; exact this]
    exact ⟨_, _, _, rfl, r4, a6, a7⟩
  · rw [show cntb (fitF C P kd sr sj st ns) R = 0 by omega, if_pos (show nI 0 ≤ (0 : Int32) by decide)]
    exact ⟨_, _, _, rfl, f2 q, a6, a7⟩
theorem q_digest {N n : Nat} {σ μ : St} (hN : 5000 ≤ N) (h : RelE n σ μ) (h9 : Int64) : ∃ y τ ν h', D_X11_digest N σ = some (y, τ) ∧ D_X12_digest N μ h9 = some (y, (ν, h')) ∧ RelE (n + 1) τ ν := by
  have h0 := h
  obtain ⟨C, P, J, R, gr, hn, ⟨np, pg, p1, p2, p3, p4⟩, hG, ⟨hid, ns, kd, sr, sj, st, hNow⟩, hI, hT⟩ := h
  have l := hG.1.le
  have n12 := hNow.1.1
  have gG : ∀ s u, Kp [9, 24, 25, 26, 27, 30] σ s → KpM μ u → RGm C P J R s u := fun s u hs hu => hG.move hs hu
  have gN : ∀ s u, Kp [9, 24, 25, 26, 27, 30] σ s → KpM μ u → Now J R hid ns kd sr sj st s u := fun s u hs hu => hNow.move hs hu
  suffices hh : ∃ y τ ν, D_X11_digest N σ = some (y, τ) ∧ D_X12_digest N μ h9 = some (y, (ν, y)) ∧ Kp [9, 24, 25, 26, 27, 30] σ τ ∧ KpM μ ν by
    obtain ⟨y, τ, ν, a1, a2, a3, a4⟩ := hh
    exact ⟨y, τ, ν, y, a1, a2, (h0.move a3 a4).up⟩
  have A : ∀ (d i n1 n2 : Nat) (y : Int64) (s u : St), i + d = 11 → d < n1 → d < n2 → Kp [9, 24, 25, 26, 27, 30] σ s → KpM μ u → ∃ z τ ν, L_X11_digest_174 N n1 y (nI i) s = some (z, τ) ∧ L_X12_digest_155 N n2 (nI i) u y = some (z, (ν, z)) ∧ Kp [9, 24, 25, 26, 27, 30] σ τ ∧ KpM μ ν := by
    intro d
    induction d with
    | zero =>
      intro i n1 n2 y s u hi h1 h2 hs hu
      obtain ⟨n1, rfl⟩ : ∃ q, n1 = q + 1 := ⟨n1 - 1, by omega⟩
      obtain ⟨n2, rfl⟩ : ∃ q, n2 = q + 1 := ⟨n2 - 1, by omega⟩
      obtain rfl : i = 11 := by omega
      rw [L_X11_digest_174, L_X12_digest_155, if_pos (show (11 : Int32) ≤ nI 11 by decide), if_pos (show (11 : Int32) ≤ nI 11 by decide)]
      exact ⟨_, _, _, rfl, rfl, hs, hu⟩
    | succ d ih =>
      intro i n1 n2 y s u hi h1 h2 hs hu
      obtain ⟨n1, rfl⟩ : ∃ q, n1 = q + 1 := ⟨n1 - 1, by omega⟩
      obtain ⟨n2, rfl⟩ : ∃ q, n2 = q + 1 := ⟨n2 - 1, by omega⟩
      obtain ⟨r, τ, ν, c1, c2, -⟩ := q_count (h0.move hs hu) (nI i)
      have c1' : D_X11_count s (nI i) = some r := by
        unfold pu at c1
        cases hq : D_X11_count s (nI i) with
        | none => rw [hq] at c1; cases c1
        | some w => rw [hq] at c1; cases c1; rfl
      have c2' : D_X12_countOf u (nI i) = some r := by
        unfold pu D_X12_count at c2
        cases hq : D_X12_countOf u (nI i) with
        | none => rw [hq] at c2; cases c2
        | some w => rw [hq, bp_s] at c2; cases c2; rfl
      rw [L_X11_digest_174, L_X12_digest_155, if_neg (show ¬ (11 : Int32) ≤ nI i from nI_ge (b := 11) (by omega) (by omega)), if_neg (show ¬ (11 : Int32) ≤ nI i from nI_ge (b := 11) (by omega) (by omega)), c1', c2', bp_s, bp_s]
      unfold D_X11_with D_X12_say
      rw [bp_s, bs_s, nI_1]
      exact ih (i + 1) n1 n2 _ s u (by omega) (by omega) (by omega) hs hu
  have B : ∀ (d i n1 n2 : Nat) (y : Int64) (s u : St), i + d = np → d < n1 → d < n2 → Kp [9, 24, 25, 26, 27, 30] σ s → KpM μ u → ∃ z τ ν, L_X11_digest_141 N n1 y (nI i) s = some (z, τ) ∧ L_X12_digest_128 N n2 (nI i) u y = some (z, (ν, z)) ∧ Kp [9, 24, 25, 26, 27, 30] σ τ ∧ KpM μ ν := by
    intro d
    induction d with
    | zero =>
      intro i n1 n2 y s u hi h1 h2 hs hu
      obtain ⟨n1, rfl⟩ : ∃ q, n1 = q + 1 := ⟨n1 - 1, by omega⟩
      obtain ⟨n2, rfl⟩ : ∃ q, n2 = q + 1 := ⟨n2 - 1, by omega⟩
      rw [L_X11_digest_141, L_X12_digest_128, hs 1 (by decide), p2, hu.2 1 (by decide), p3, if_pos (show nI np ≤ nI i by rw [nI_leI (by omega) (by omega)]; omega), if_pos (show nI np ≤ nI i by rw [nI_leI (by omega) (by omega)]; omega)]
      exact A 11 0 N N y s u (by omega) (by omega) (by omega) hs hu
    | succ d ih =>
      intro i n1 n2 y s u hi h1 h2 hs hu
      obtain ⟨n1, rfl⟩ : ∃ q, n1 = q + 1 := ⟨n1 - 1, by omega⟩
      obtain ⟨n2, rfl⟩ : ∃ q, n2 = q + 1 := ⟨n2 - 1, by omega⟩
      obtain ⟨x1, x2, -⟩ := p4 i (by omega)
      unfold L_X11_digest_141 L_X12_digest_128 D_X11_with D_X12_say
      rw [hs 1 (by decide), p2, hu.2 1 (by decide), p3, if_neg (show ¬ nI np ≤ nI i by rw [nI_leI (by omega) (by omega)]; omega), if_neg (show ¬ nI np ≤ nI i by rw [nI_leI (by omega) (by omega)]; omega), gi_nI (by omega) (by omega), gi_nI (by omega) (by omega), nI_clamp (by omega), hs 2 (by decide), hu.1 32 (by decide), x1, x2, bp_s, bs_s, nI_1]
      exact ih (i + 1) n1 n2 _ s u (by omega) (by omega) (by omega) hs hu
  have T : ∀ (y : Int64) (s u : St), Kp [9, 24, 25, 26, 27, 30] σ s → KpM μ u → ∀ n1 n2 : Nat, 0 < n1 → 0 < n2 → ∃ z τ ν, L_X11_digest_71 N n1 y (nI ns) s = some (z, τ) ∧ L_X12_digest_73 N n2 (nI (3 * ns)) u y = some (z, (ν, z)) ∧ Kp [9, 24, 25, 26, 27, 30] σ τ ∧ KpM μ ν := by
    intro y s u hs hu n1 n2 h1 h2
    obtain ⟨n1, rfl⟩ : ∃ q, n1 = q + 1 := ⟨n1 - 1, by omega⟩
    obtain ⟨n2, rfl⟩ : ∃ q, n2 = q + 1 := ⟨n2 - 1, by omega⟩
    have hGs := gG s u hs hu
    have hNs := gN s u hs hu
    unfold L_X11_digest_71 L_X12_digest_73 D_X11_with D_X12_say
    rw [hNs.1.2.2.2.1, hNs.2.1, nI_m3, if_pos (show nI ns ≤ nI ns by rw [nI_leI (by omega) (by omega)]; omega), if_pos (show nI (3 * ns) ≤ nI (3 * ns) by rw [nI_leI (by omega) (by omega)]; omega), gameOn_X hGs, lacks_M hGs, bp_s, bp_s]
    by_cases e : R = 0
    · rw [if_pos e, if_pos e, if_pos rfl, if_neg (show ¬ (1 : Int32) = 0 by decide)]
      exact B np 0 N N y s u (by omega) (by omega) (by omega) hs hu
    · obtain ⟨τ, ν, a1, a2, -, -, -, a6, a7⟩ := left_both (N := N) hGs (by omega) hNs hN
      obtain ⟨w, τ2, ν2, b1, b2, b3, b4⟩ := fits0_both (N := N) (hGs.move a6 a7) (by omega) (hNs.move a6 a7) hN
      have el : D_X11_left N s = some (nI (cntb (fitF C P kd sr sj st ns) R), τ) := by
        unfold D_X11_left
        rw [gameOn_X hGs, bp_s, if_neg e, if_neg (show ¬ (1 : Int32) = 0 by decide), a1, bs_s]
      rw [if_neg e, if_neg e, if_neg (show ¬ (1 : Int32) = 0 by decide), if_pos rfl, el, a2, bs_s, bp_s, b1, bs_s, bp_s, bs_s, bs_s, b2, bs_s, bs_s]
      exact B np 0 N N _ τ2 ν2 (by omega) (by omega) (by omega) ((hs.trans a6).trans b3) ((hu.trans a7).trans b4)
  have S : ∀ (d i n1 n2 : Nat) (y : Int64) (s u : St), i + d = ns → d < n1 → 3 * d < n2 → Kp [9, 24, 25, 26, 27, 30] σ s → KpM μ u → ∃ z τ ν, L_X11_digest_71 N n1 y (nI i) s = some (z, τ) ∧ L_X12_digest_73 N n2 (nI (3 * i)) u y = some (z, (ν, z)) ∧ Kp [9, 24, 25, 26, 27, 30] σ τ ∧ KpM μ ν := by
    intro d
    induction d with
    | zero =>
      intro i n1 n2 y s u hi h1 h2 hs hu
      obtain rfl : i = ns := by omega
      exact T y s u hs hu n1 n2 (by omega) (by omega)
    | succ d ih =>
      intro i n1 n2 y s u hi h1 h2 hs hu
      obtain ⟨n1, rfl⟩ : ∃ q, n1 = q + 1 := ⟨n1 - 1, by omega⟩
      obtain ⟨n2, rfl⟩ : ∃ q, n2 = q + 1 + 1 + 1 := ⟨n2 - 3, by omega⟩
      have hNs := gN s u hs hu
      obtain ⟨⟨k1, k2, k3, k4, k5, k6⟩, m2, -⟩ := hNs
      obtain ⟨b1, b2, b3, b4, b5, b6, b7, b8, b9⟩ := k6 i (by omega)
      have xs : ∀ (kc : Int64 → Int32 → St → Option (Int64 × St)) (k : Nat) (z : Int64) (m : Nat) (w : Int32), k < 3 → D_X11_seen s (nI i) (nI k) = some w → L_X11_digest_85 N kc (nI i) (m + 1) z (nI k) s = L_X11_digest_85 N kc (nI i) m ((31 : Int64) * z + w.toInt64) (nI (k + 1)) s := by
        intro kc k z m w hk hw
        rw [L_X11_digest_85, if_neg (show ¬ (3 : Int32) ≤ nI k from nI_ge (b := 3) (by omega) (by omega)), hw, bp_s]
        unfold D_X11_with
        rw [bp_s, nI_1]
      have ms_ : ∀ (k : Nat) (z : Int64) (m : Nat) (w : Int32), k < 3 → u 34 (3 * i + k) = w → L_X12_digest_73 N (m + 1) (nI (3 * i + k)) u z = L_X12_digest_73 N m (nI (3 * i + k + 1)) u ((31 : Int64) * z + w.toInt64) := by
        intro k z m w hk hw
        rw [L_X12_digest_73]
        unfold D_X12_say
        rw [m2, nI_m3, if_neg (show ¬ nI (3 * ns) ≤ nI (3 * i + k) by rw [nI_leI (by omega) (by omega)]; omega), gi_nI (by omega) (by omega), nI_clamp (by omega), hw, bs_s, nI_1]
      have sn : ∀ (k : Nat), k < 3 → D_X11_seen s (nI i) (nI k) = some (if k = 0 then nI (sr i) else if k = 1 then nI (sj i) else nI (st i)) := by
        intro k hk
        unfold D_X11_seen
        rw [if_neg (nI_pos (by omega)), k4, if_pos (nI_lt (show i < ns by omega) (by omega)), gi_nI (by omega) (by omega), gi_nI (by omega) (by omega), gi_nI (by omega) (by omega), nI_clamp (by omega), show s 12 i = nI (sr i) from b4, show s 13 i = nI (sj i) from b5, show s 14 i = nI (st i) from b6]
        rcases (show k = 0 ∨ k = 1 ∨ k = 2 by omega) with rfl | rfl | rfl
        · rfl
        · rfl
        · rfl
      obtain ⟨m, rfl⟩ : ∃ m, N = m + 1 + 1 + 1 + 1 := ⟨N - 4, by omega⟩
      rw [L_X11_digest_71, k4, if_neg (show ¬ nI ns ≤ nI i by rw [nI_leI (by omega) (by omega)]; omega), show (0 : Int32) = nI 0 from rfl, xs _ 0 _ _ _ (by omega) (sn 0 (by omega)), xs _ 1 _ _ _ (by omega) (sn 1 (by omega)), xs _ 2 _ _ _ (by omega) (sn 2 (by omega)), L_X11_digest_85, if_pos (show (3 : Int32) ≤ nI (2 + 1) by decide), nI_1]
      have e0 := ms_ 0 y (n2 + 1 + 1) _ (by omega) b7
      have e1 := ms_ 1 ((31 : Int64) * y + (nI (sr i)).toInt64) (n2 + 1) _ (by omega) b8
      have e2 := ms_ 2 ((31 : Int64) * ((31 : Int64) * y + (nI (sr i)).toInt64) + (nI (sj i)).toInt64) n2 _ (by omega) b9
      rw [show 3 * i = 3 * i + 0 from rfl, e0, show 3 * i + 0 + 1 = 3 * i + 1 from rfl, e1, show 3 * i + 1 + 1 = 3 * i + 2 from rfl, e2, show 3 * i + 2 + 1 = 3 * (i + 1) by omega]
      exact ih (i + 1) n1 n2 _ s u (by omega) (by omega) (by omega) hs hu
  have Q : ∀ (d k j : Nat) (n1 n2 : Nat) (y : Int64) (s u : St) (kc : Int64 → Int32 → St → Option (Int64 × St)) (kc' : Int32 → St → Int64 → Option (Int64 × (St × Int64))), j < J → k + d = 4 → d < n1 → d < n2 → Kp [9, 24, 25, 26, 27, 30] σ s → KpM μ u → (∀ y s u, Kp [9, 24, 25, 26, 27, 30] σ s → KpM μ u → ∃ z τ ν, kc y (nI (j + 1)) s = some (z, τ) ∧ kc' (nI (j + 1)) u y = some (z, (ν, z)) ∧ Kp [9, 24, 25, 26, 27, 30] σ τ ∧ KpM μ ν) →
      ∃ z τ ν, L_X11_digest_17 N kc (nI j) n1 y (nI k) s = some (z, τ) ∧ L_X12_digest_19 N kc' (nI j) n2 (nI k) u y = some (z, (ν, z)) ∧ Kp [9, 24, 25, 26, 27, 30] σ τ ∧ KpM μ ν := by
    intro d
    induction d with
    | zero =>
      intro k j n1 n2 y s u kc kc' hj hk h1 h2 hs hu hc
      obtain ⟨n1, rfl⟩ : ∃ q, n1 = q + 1 := ⟨n1 - 1, by omega⟩
      obtain ⟨n2, rfl⟩ : ∃ q, n2 = q + 1 := ⟨n2 - 1, by omega⟩
      obtain rfl : k = 4 := by omega
      have hR := hG.pos (by omega)
      obtain ⟨w, τ, ν, a1, a2, a3, a4⟩ := rest_both (N := N) (v := 0) (gG s u hs hu) hR (gN s u hs hu) hR hj (by omega) hN
      obtain ⟨w2, τ2, ν2, b1, b2, b3, b4⟩ := rest_both (N := N) (v := 1) (gG τ ν (hs.trans a3) (hu.trans a4)) hR (gN τ ν (hs.trans a3) (hu.trans a4)) hR hj (by omega) hN
      have a1' : D_X11_rest N s 0 (nI j) 0 = some (w, τ) := a1
      have b1' : D_X11_rest N τ 0 (nI j) 1 = some (w2, τ2) := b1
      have a2' : D_X12_restOf N u 0 (nI j) 0 = some (w, ν) := a2
      have b2' : D_X12_restOf N ν 0 (nI j) 1 = some (w2, ν2) := b2
      unfold L_X11_digest_17 L_X12_digest_19 D_X11_with D_X12_say
      rw [if_pos (show (4 : Int32) ≤ nI 4 by decide), if_pos (show (4 : Int32) ≤ nI 4 by decide), a1', bs_s, bp_s, b1', bs_s, bp_s, a2', bs_s, bs_s, b2', bs_s, bs_s, nI_1]
      exact hc _ τ2 ν2 ((hs.trans a3).trans b3) ((hu.trans a4).trans b4)
    | succ d ih =>
      intro k j n1 n2 y s u kc kc' hj hk h1 h2 hs hu hc
      obtain ⟨n1, rfl⟩ : ∃ q, n1 = q + 1 := ⟨n1 - 1, by omega⟩
      obtain ⟨n2, rfl⟩ : ∃ q, n2 = q + 1 := ⟨n2 - 1, by omega⟩
      obtain ⟨r, τ, a1, a2, a3⟩ := judge_both (N := N) (gG s u hs hu) (gN s u hs hu) hN hj (nI k)
      rw [L_X11_digest_17, L_X12_digest_19, if_neg (show ¬ (4 : Int32) ≤ nI k from nI_ge (b := 4) (by omega) (by omega)), if_neg (show ¬ (4 : Int32) ≤ nI k from nI_ge (b := 4) (by omega) (by omega)), a1, bs_s, a2, bp_s]
      unfold D_X11_with D_X12_say
      rw [bp_s, bs_s, nI_1]
      exact ih (k + 1) j n1 n2 _ τ u kc kc' hj (by omega) (by omega) (by omega) (hs.trans (a3.mono (by decide))) hu hc
  have W : ∀ (d j n1 n2 : Nat) (y : Int64) (s u : St), j + d = J → d < n1 → d < n2 → Kp [9, 24, 25, 26, 27, 30] σ s → KpM μ u → ∃ z τ ν, L_X11_digest_6 N n1 y (nI j) s = some (z, τ) ∧ L_X12_digest_9 N n2 (nI j) u y = some (z, (ν, z)) ∧ Kp [9, 24, 25, 26, 27, 30] σ τ ∧ KpM μ ν := by
    intro d
    induction d with
    | zero =>
      intro j n1 n2 y s u hi h1 h2 hs hu
      obtain ⟨n1, rfl⟩ : ∃ q, n1 = q + 1 := ⟨n1 - 1, by omega⟩
      obtain ⟨n2, rfl⟩ : ∃ q, n2 = q + 1 := ⟨n2 - 1, by omega⟩
      have hGs := gG s u hs hu
      rw [L_X11_digest_6, L_X12_digest_9, hGs.2.2.2.2.1, hGs.2.2.2.2.2.2.2.2.1, if_pos (show nI J ≤ nI j by rw [nI_leI (by omega) (by omega)]; omega), if_pos (show nI J ≤ nI j by rw [nI_leI (by omega) (by omega)]; omega)]
      exact S ns 0 N N y s u (by omega) (by omega) (by omega) hs hu
    | succ d ih =>
      intro j n1 n2 y s u hi h1 h2 hs hu
      obtain ⟨n1, rfl⟩ : ∃ q, n1 = q + 1 := ⟨n1 - 1, by omega⟩
      obtain ⟨n2, rfl⟩ : ∃ q, n2 = q + 1 := ⟨n2 - 1, by omega⟩
      have hGs := gG s u hs hu
      rw [L_X11_digest_6, L_X12_digest_9, hGs.2.2.2.2.1, hGs.2.2.2.2.2.2.2.2.1, if_neg (show ¬ nI J ≤ nI j by rw [nI_leI (by omega) (by omega)]; omega), if_neg (show ¬ nI J ≤ nI j by rw [nI_leI (by omega) (by omega)]; omega)]
      exact Q 4 0 j N N y s u _ _ (by omega) (by omega) (by omega) (by omega) hs hu (fun y s u hs hu => ih (j + 1) n1 n2 y s u (by omega) (by omega) (by omega) hs hu)
  exact W J 0 N N 1297 σ μ (by omega) (by omega) (by omega) Kp.rfl KpM.rfl
