/-! show, note, image, restore -/
theorem RGm.put {C P J R : Nat} {σ μ τ ν : St} (h : RGm C P J R σ μ) (hK : Kp [10, 12, 13, 14] σ τ) (hM : ∀ q, q ≠ 8 → ν 31 q = μ 31 q) : RGm C P J R τ ν := by
  obtain ⟨g0, g1, g2, g3, g4, g5, g6, g7, g8, g9⟩ := h
  refine ⟨g0, ?_, ?_, ?_, ?_, ?_, ?_, ?_, ?_, fun hR => hK.tab (by decide) (g9 hR)⟩
  · rw [hK 20 (by decide)]; exact g1
  · rw [hK 20 (by decide)]; exact g2
  · rw [hK 20 (by decide)]; exact g3
  · rw [hK 0 (by decide)]; exact g4
  · rw [hM 3 (by decide)]; exact g5
  · rw [hM 4 (by decide)]; exact g6
  · rw [hM 5 (by decide)]; exact g7
  · rw [hM 6 (by decide)]; exact g8
theorem put_rest {J R gr : Nat} {σ μ τ ν : St} (hK : Kp [10, 12, 13, 14] σ τ) (hM : ∀ k, k ∉ [31, 34] → ν k = μ k) (hM2 : ∀ q, q ≠ 8 → ν 31 q = μ 31 q) (hp : RPg σ μ) (hI : RIm J R gr σ μ) (hT : RCt gr σ μ) : RPg τ ν ∧ RIm J R gr τ ν ∧ RCt gr τ ν := by
  refine ⟨?_, ?_, ?_⟩
  · unfold RPg at *
    rw [hK 1 (by decide), hK 2 (by decide), hM 32 (by decide), hM2 1 (by decide)]
    exact hp
  · unfold RIm at *
    rw [hK 0 (by decide), hM2 21 (by decide), hM2 22 (by decide), hM2 23 (by decide)]
    rcases hI with h | ⟨h1, h2, h3, hid, ns, kd, sr, sj, st, h4, h5, h6⟩
    · exact Or.inl h
    · exact Or.inr ⟨h1, h2, h3, hid, ns, kd, sr, sj, st, h4.move (hK 15 (by decide)) (hK 16 (by decide)) (hK 17 (by decide)) (hK 18 (by decide)) (hK 19 (by decide)) (hM 39 (by decide)) (hM 40 (by decide)), h5, h6⟩
  · unfold RCt at *
    rw [hK 0 (by decide), hK 28 (by decide), hK 29 (by decide), hM2 9 (by decide), hM2 15 (by decide), hM2 16 (by decide), hM2 17 (by decide)]
    exact hT
theorem q_show {N n : Nat} {σ μ : St} (hN : 5000 ≤ N) (h : RelE n σ μ) (x y : Int32) : Ok2 n (D_X11_show σ x y) (D_X12_show N μ x y) := by
  have h0 := h
  obtain ⟨C, P, J, R, gr, hn, hp, hG, ⟨hid, ns, kd, sr, sj, st, hNow⟩, hI, hT⟩ := h
  have l := hG.1.le
  unfold D_X11_show D_X12_show
  rw [isRow_X hG, isRow_M hG, bp_s, bp_s, isJudge_X hG, isJudge_M hG, bp_s, bp_s]
  rcases tI_cases x (n := R) (by omega) with t | ⟨r, hr, rfl, t⟩
  · rw [t, if_pos rfl, if_pos rfl]
    exact Ok2.same h0
  · rw [t, if_neg (show ¬ (1 : Int32) = 0 by decide), if_neg (show ¬ (1 : Int32) = 0 by decide)]
    rcases tI_cases y (n := J) (by omega) with t | ⟨j, hj, rfl, t⟩
    · rw [t, if_pos rfl, if_pos rfl]
      exact Ok2.same h0
    · rw [t, if_neg (show ¬ (1 : Int32) = 0 by decide), if_neg (show ¬ (1 : Int32) = 0 by decide), hNow.1.2.2.2.1, hNow.2.1]
      have k1 := hNow.1.1
      by_cases e : ns = 12
      · rw [e, if_neg (by decide), if_pos (by decide)]
        exact Ok2.same h0
      · obtain ⟨q1, q2, q3⟩ := hNow.1.2.2.2.2.1 j hj
        have hh := hNow.1.2.1 (by omega)
        obtain ⟨w1, w2, w3⟩ := tell_both (N := N) hG hN hr hh q1
        obtain ⟨τ, ν, sr', sj', st', a1, a2, a3, a4, a5, a6, a7⟩ := keep_both (C := C) (P := P) (by omega) (by omega) hNow (by omega) hr hj (show tl C P (kd j) r hid ≤ 40 by omega)
        rw [if_pos (show nI ns < (12 : Int32) from nI_lt (b := 12) (by omega) (by omega)), if_neg (show ¬ nI ns = (12 : Int32) from fun q => e ((nI_eq (b := 12) (by omega) (by omega)).mp q)), judgeAt_X hNow (by omega) hj, bp_s, hNow.1.2.2.1, w1, bp_s, a1, bp_s, gi_nI (by omega) (by omega), nI_clamp (by omega), q3, hNow.2.2.2 (by omega), w2, bp_s, a2, bp_s]
        obtain ⟨b1, b2, b3⟩ := put_rest a4 a6 a7 hp hI hT
        exact ⟨_, _, _, rfl, rfl, C, P, J, R, gr, by omega, b1, hG.put a4 a7, ⟨hid, ns + 1, kd, sr', sj', st', a3⟩, b2, b3⟩
theorem q_note {N n : Nat} {σ μ : St} (hN : 5000 ≤ N) (h : RelE n σ μ) (x y z : Int32) : Ok2 n (D_X11_note N σ x y z) (D_X12_note N μ x y z) := by
  have h0 := h
  obtain ⟨C, P, J, R, gr, hn, hp, hG, ⟨hid, ns, kd, sr, sj, st, hNow⟩, hI, hT⟩ := h
  have l := hG.1.le
  unfold D_X11_note D_X12_note
  rw [isRow_X hG, isRow_M hG, bp_s, bp_s, isJudge_X hG, isJudge_M hG, bp_s, bp_s, in_0l z (40 : Int64) (n := 41) rfl, bp_s]
  rcases tI_cases x (n := R) (by omega) with t | ⟨r, hr, rfl, t⟩
  · rw [t, if_pos rfl, if_pos rfl]
    exact Ok2.same h0
  · rw [t, if_neg (show ¬ (1 : Int32) = 0 by decide), if_neg (show ¬ (1 : Int32) = 0 by decide)]
    rcases tI_cases y (n := J) (by omega) with t | ⟨j, hj, rfl, t⟩
    · rw [t, if_pos rfl, if_pos rfl]
      exact Ok2.same h0
    · rw [t, if_neg (show ¬ (1 : Int32) = 0 by decide), if_neg (show ¬ (1 : Int32) = 0 by decide), hNow.1.2.2.2.1, hNow.2.1]
      have k1 := hNow.1.1
      rcases tI_cases z (n := 41) (by omega) with t | ⟨v, hv, rfl, t⟩
      · rw [t, if_pos rfl]
        by_cases c1 : z < 0
        · rw [if_pos c1]; exact Ok2.same h0
        · rw [if_neg c1]
          by_cases c2 : z ≤ 40
          · obtain ⟨q, hq, rfl⟩ := nI_of c1
            rw [tI_nI (by have := (nI_leI (b := 40) hq (by omega)).mp c2; omega) (by omega)] at t
            exact absurd t (by decide)
          · rw [if_neg c2]; exact Ok2.same h0
      · rw [t, if_neg (nI_pos (by omega)), if_pos (show nI v ≤ (40 : Int32) from nI_le (b := 40) (by omega) (by omega)), if_neg (show ¬ (1 : Int32) = 0 by decide)]
        by_cases e : ns = 12
        · rw [e, if_neg (by decide), if_pos (by decide)]
          exact Ok2.same h0
        · obtain ⟨τ, ν, sr', sj', st', a1, a2, a3, a4, a5, a6, a7⟩ := keep_both (C := C) (P := P) (by omega) (by omega) hNow (by omega) hr hj (show v ≤ 40 by omega)
          have hG2 := hG.put a4 a7
          obtain ⟨b1, b2, b3⟩ := put_rest a4 a6 a7 hp hI hT
          obtain ⟨τ2, ν2, c1, c2, -, -, -, c6, c7⟩ := left_both (N := N) hG2 (by omega) a3 hN
          rw [if_pos (show nI ns < (12 : Int32) from nI_lt (b := 12) (by omega) (by omega)), if_neg (show ¬ nI ns = (12 : Int32) from fun q => e ((nI_eq (b := 12) (by omega) (by omega)).mp q)), a1, bp_s, c1, bs_s, a2, bp_s, c2, bs_s]
          exact ⟨_, _, _, rfl, rfl, C, P, J, R, gr, by omega, Rel.move ⟨b1, hG2, ⟨hid, ns + 1, kd, sr', sj', st', a3⟩, b2, b3⟩ c6 c7⟩
theorem cpy_in {f g : Nat → Int32} {n j : Nat} (h : j < n) : va_cpy f g 0 0 n j = f j := by
  rw [pk_cpy_in (Nat.zero_le _) (by omega)]
  congr 1
  omega
/-- the reference's copies -/
theorem copy_k1M {N : Nat} (μ : St) (hN : 5000 ≤ N) : ∃ ν, D_X12_copy_k1 N μ = some ν ∧ (∀ j, j < 3 → ν 39 j = μ 33 j) ∧ ∀ k, k ≠ 39 → ν k = μ k := by
  unfold D_X12_copy_k1
  refine loopQ (S := St) (fun n i s => L_X12_copy_k1_2 N n (nI i) s) 3 (fun i s => (∀ j, j < i → s 39 j = μ 33 j) ∧ ∀ k, k ≠ 39 → s k = μ k) (fun o => ∃ ν, o = some ν ∧ (∀ j, j < 3 → ν 39 j = μ 33 j) ∧ ∀ k, k ≠ 39 → ν k = μ k) ?_ ?_ N 0 μ (Nat.zero_le _) (by omega) ⟨fun j hj => absurd hj (Nat.not_lt_zero j), fun _ _ => rfl⟩
  · intro n s hI
    show ∃ ν, L_X12_copy_k1_2 N (n + 1) (nI 3) s = some ν ∧ _
    rw [L_X12_copy_k1_2, if_pos (by decide)]
    exact ⟨s, rfl, hI⟩
  · intro n i s hi ⟨i1, i2⟩ ih
    show ∃ ν, L_X12_copy_k1_2 N (n + 1) (nI i) s = some ν ∧ _
    rw [L_X12_copy_k1_2, if_neg (show ¬ (3 : Int32) ≤ nI i from nI_ge (b := 3) hi (by omega)), gi_nI hi (by omega), gi_nI hi (by omega), nI_clamp (by omega), nI_1, i2 33 (by decide)]
    refine ih _ ⟨fun j hj => ?_, fun k hk => by rw [pt_ne hk]; exact i2 k hk⟩
    show upd (s 39) i (μ 33 i) j = μ 33 j
    by_cases e : j = i
    · subst e; exact upd_at
    · rw [upd_ne e]; exact i1 j (by omega)
theorem copy_k2M {N : Nat} (μ : St) (hN : 5000 ≤ N) : ∃ ν, D_X12_copy_k2 N μ = some ν ∧ (∀ j, j < 3 → ν 33 j = μ 39 j) ∧ ∀ k, k ≠ 33 → ν k = μ k := by
  unfold D_X12_copy_k2
  refine loopQ (S := St) (fun n i s => L_X12_copy_k2_2 N n (nI i) s) 3 (fun i s => (∀ j, j < i → s 33 j = μ 39 j) ∧ ∀ k, k ≠ 33 → s k = μ k) (fun o => ∃ ν, o = some ν ∧ (∀ j, j < 3 → ν 33 j = μ 39 j) ∧ ∀ k, k ≠ 33 → ν k = μ k) ?_ ?_ N 0 μ (Nat.zero_le _) (by omega) ⟨fun j hj => absurd hj (Nat.not_lt_zero j), fun _ _ => rfl⟩
  · intro n s hI
    show ∃ ν, L_X12_copy_k2_2 N (n + 1) (nI 3) s = some ν ∧ _
    rw [L_X12_copy_k2_2, if_pos (by decide)]
    exact ⟨s, rfl, hI⟩
  · intro n i s hi ⟨i1, i2⟩ ih
    show ∃ ν, L_X12_copy_k2_2 N (n + 1) (nI i) s = some ν ∧ _
    rw [L_X12_copy_k2_2, if_neg (show ¬ (3 : Int32) ≤ nI i from nI_ge (b := 3) hi (by omega)), gi_nI hi (by omega), gi_nI hi (by omega), nI_clamp (by omega), nI_1, i2 39 (by decide)]
    refine ih _ ⟨fun j hj => ?_, fun k hk => by rw [pt_ne hk]; exact i2 k hk⟩
    show upd (s 33) i (μ 39 i) j = μ 39 j
    by_cases e : j = i
    · subst e; exact upd_at
    · rw [upd_ne e]; exact i1 j (by omega)
theorem copy_s1M {N : Nat} (μ : St) (hN : 5000 ≤ N) : ∃ ν, D_X12_copy_s1 N μ = some ν ∧ (∀ j, j < 36 → ν 40 j = μ 34 j) ∧ ∀ k, k ≠ 40 → ν k = μ k := by
  unfold D_X12_copy_s1
  refine loopQ (S := St) (fun n i s => L_X12_copy_s1_2 N n (nI i) s) 36 (fun i s => (∀ j, j < i → s 40 j = μ 34 j) ∧ ∀ k, k ≠ 40 → s k = μ k) (fun o => ∃ ν, o = some ν ∧ (∀ j, j < 36 → ν 40 j = μ 34 j) ∧ ∀ k, k ≠ 40 → ν k = μ k) ?_ ?_ N 0 μ (Nat.zero_le _) (by omega) ⟨fun j hj => absurd hj (Nat.not_lt_zero j), fun _ _ => rfl⟩
  · intro n s hI
    show ∃ ν, L_X12_copy_s1_2 N (n + 1) (nI 36) s = some ν ∧ _
    rw [L_X12_copy_s1_2, if_pos (by decide)]
    exact ⟨s, rfl, hI⟩
  · intro n i s hi ⟨i1, i2⟩ ih
    show ∃ ν, L_X12_copy_s1_2 N (n + 1) (nI i) s = some ν ∧ _
    rw [L_X12_copy_s1_2, if_neg (show ¬ (36 : Int32) ≤ nI i from nI_ge (b := 36) hi (by omega)), gi_nI hi (by omega), gi_nI hi (by omega), nI_clamp (by omega), nI_1, i2 34 (by decide)]
    refine ih _ ⟨fun j hj => ?_, fun k hk => by rw [pt_ne hk]; exact i2 k hk⟩
    show upd (s 40) i (μ 34 i) j = μ 34 j
    by_cases e : j = i
    · subst e; exact upd_at
    · rw [upd_ne e]; exact i1 j (by omega)
theorem copy_s2M {N : Nat} (μ : St) (hN : 5000 ≤ N) : ∃ ν, D_X12_copy_s2 N μ = some ν ∧ (∀ j, j < 36 → ν 34 j = μ 40 j) ∧ ∀ k, k ≠ 34 → ν k = μ k := by
  unfold D_X12_copy_s2
  refine loopQ (S := St) (fun n i s => L_X12_copy_s2_2 N n (nI i) s) 36 (fun i s => (∀ j, j < i → s 34 j = μ 40 j) ∧ ∀ k, k ≠ 34 → s k = μ k) (fun o => ∃ ν, o = some ν ∧ (∀ j, j < 36 → ν 34 j = μ 40 j) ∧ ∀ k, k ≠ 34 → ν k = μ k) ?_ ?_ N 0 μ (Nat.zero_le _) (by omega) ⟨fun j hj => absurd hj (Nat.not_lt_zero j), fun _ _ => rfl⟩
  · intro n s hI
    show ∃ ν, L_X12_copy_s2_2 N (n + 1) (nI 36) s = some ν ∧ _
    rw [L_X12_copy_s2_2, if_pos (by decide)]
    exact ⟨s, rfl, hI⟩
  · intro n i s hi ⟨i1, i2⟩ ih
    show ∃ ν, L_X12_copy_s2_2 N (n + 1) (nI i) s = some ν ∧ _
    rw [L_X12_copy_s2_2, if_neg (show ¬ (36 : Int32) ≤ nI i from nI_ge (b := 36) hi (by omega)), gi_nI hi (by omega), gi_nI hi (by omega), nI_clamp (by omega), nI_1, i2 40 (by decide)]
    refine ih _ ⟨fun j hj => ?_, fun k hk => by rw [pt_ne hk]; exact i2 k hk⟩
    show upd (s 34) i (μ 40 i) j = μ 40 j
    by_cases e : j = i
    · subst e; exact upd_at
    · rw [upd_ne e]; exact i1 j (by omega)
theorem q_image {N n : Nat} {σ μ : St} (hN : 5000 ≤ N) (h : RelE n σ μ) : Ok2 n (D_X11_image σ) (D_X12_image N μ) := by
  have h0 := h
  obtain ⟨C, P, J, R, gr, hn, hp, hG, ⟨hid, ns, kd, sr, sj, st, hNow⟩, hI, hT⟩ := h
  have l := hG.1.le
  unfold D_X11_image D_X12_image
  rw [gameOn_X hG, lacks_M hG, bp_s, bp_s]
  by_cases e : R = 0
  · rw [if_pos e, if_pos e, if_pos rfl, if_neg (by decide)]
    exact Ok2.same h0
  · obtain ⟨ν, a1, a2, a3⟩ := copy_k1M (N := N) μ hN
    obtain ⟨ρ, b1, b2, b3⟩ := copy_s1M (N := N) ν hN
    have hm : ∀ k, k ≠ 39 → k ≠ 40 → ρ k = μ k := fun k h1 h2 => (b3 k h2).trans (a3 k h1)
    have hNow0 := hNow
    obtain ⟨⟨k1, k2, k3, k4, k5, k6⟩, n2, n3, n4⟩ := hNow
    rw [if_neg e, if_neg e, if_neg (by decide), if_pos rfl, a1, bp_s, b1, bp_s]
    unfold D_X0_take_k
    rw [bp_s]
    show Ok2 n (some (σ 10 5, _)) (some (ρ 31 8, _))
    rw [hm 31 (by decide) (by decide), k4, n2]
    refine ⟨_, _, _, rfl, rfl, C, P, J, R, gr, by omega, ?_, ?_, ⟨hid, ns, kd, sr, sj, st, ?_⟩, Or.inr ⟨rfl, by omega, ?_, hid, ns, kd, sr, sj, st, ⟨k1, k2, k3, rfl, fun j hj => ?_, fun i hi => ?_⟩, ?_, rfl⟩, ?_⟩
    · obtain ⟨np, pg, p1, p2, p3, p4⟩ := hp
      exact ⟨np, pg, p1, p2, by show ρ 31 1 = _; rw [hm 31 (by decide) (by decide)]; exact p3, fun j hj => by
        show σ 2 j = _ ∧ ρ 32 j = _ ∧ _
        rw [hm 32 (by decide) (by decide)]; exact p4 j hj⟩
    · obtain ⟨g0, g1, g2, g3, g4, g5, g6, g7, g8, g9⟩ := hG
      refine ⟨g0, g1, g2, g3, g4, ?_, ?_, ?_, ?_, g9⟩
      · show ρ 31 3 = _; rw [hm 31 (by decide) (by decide)]; exact g5
      · show ρ 31 4 = _; rw [hm 31 (by decide) (by decide)]; exact g6
      · show ρ 31 5 = _; rw [hm 31 (by decide) (by decide)]; exact g7
      · show ρ 31 6 = _; rw [hm 31 (by decide) (by decide)]; exact g8
    · refine ⟨hNow0.1.move rfl rfl rfl rfl rfl (hm 33 (by decide) (by decide)) (hm 34 (by decide) (by decide)), ?_, fun q => absurd q e, fun _ => ?_⟩
      · show ρ 31 8 = _; rw [hm 31 (by decide) (by decide)]; exact n2
      · show ρ 31 7 = _; rw [hm 31 (by decide) (by decide)]; exact n4 (by omega)
    · show μ 31 9 = _
      obtain ⟨bd, ld, pd, tr, t1, t2, t3, t4, t5, -⟩ := hT
      exact t5
    · obtain ⟨q1, q2, q3⟩ := k5 j hj
      show kd j < 5 ∧ va_cpy (σ 11) (σ 16) 0 0 3 j = _ ∧ ρ 39 j = _
      rw [cpy_in (by omega), b3 39 (by decide), a2 j (by omega)]
      exact ⟨q1, q2, q3⟩
    · obtain ⟨c1, c2, c3, c4, c5, c6, c7, c8, c9⟩ := k6 i hi
      show _ ∧ _ ∧ _ ∧ va_cpy (σ 12) (σ 17) 0 0 12 i = _ ∧ va_cpy (σ 13) (σ 18) 0 0 12 i = _ ∧ va_cpy (σ 14) (σ 19) 0 0 12 i = _ ∧ ρ 40 (3 * i) = _ ∧ ρ 40 (3 * i + 1) = _ ∧ ρ 40 (3 * i + 2) = _
      rw [cpy_in (by omega), cpy_in (by omega), cpy_in (by omega), b2 _ (by omega), b2 _ (by omega), b2 _ (by omega), a3 34 (by decide)]
      exact ⟨c1, c2, c3, c4, c5, c6, c7, c8, c9⟩
    · show μ 31 7 = _; exact n4 (by omega)
    · obtain ⟨bd, ld, pd, tr, t1, t2, t3, t4, t5, t6, t7, t8, t9, t10, t11, t12, t13, t14⟩ := hT
      refine ⟨bd, ld, pd, tr, t1, t2, t3, t4, ?_, t6, ?_, t8, ?_, t10, ?_, t12, t13, t14⟩
      · show ρ 31 9 = _; rw [hm 31 (by decide) (by decide)]; exact t5
      · show ρ 31 15 = _; rw [hm 31 (by decide) (by decide)]; exact t7
      · show ρ 31 16 = _; rw [hm 31 (by decide) (by decide)]; exact t9
      · show ρ 31 17 = _; rw [hm 31 (by decide) (by decide)]; exact t11
theorem q_restore {N n : Nat} {σ μ : St} (hN : 5000 ≤ N) (hn2 : n < 1000000) (h : RelE n σ μ) : Ok2 n (D_X11_restore σ) (D_X12_restore N μ) := by
  have h0 := h
  obtain ⟨C, P, J, R, gr, hn, hp, hG, hNow, hI, hT⟩ := h
  have l := hG.1.le
  have t9 : μ 31 9 = nI gr := by
    obtain ⟨bd, ld, pd, tr, t1, t2, t3, t4, t5, -⟩ := hT
    exact t5
  unfold D_X11_restore D_X12_restore
  rcases hI with ⟨i1, i2⟩ | ⟨i1, i2, i3, hid, ns, kd, sr, sj, st, ⟨k1, k2, k3, k4, k5, k6⟩, i5, i6⟩
  · rw [i1, if_pos rfl, t9]
    have : ¬ μ 31 21 = nI gr := by
      rcases i2 with q | ⟨kg, q1, q2⟩
      · rw [q]
        intro e
        have := nI_pos (n := gr) (by omega)
        rw [← e] at this
        exact absurd this (by decide)
      · rw [q2, nI_eq (by omega) (by omega)]
        omega
    rw [if_neg this]
    exact Ok2.same h0
  · obtain ⟨ν, a1, a2, a3⟩ := copy_k2M (N := N) μ hN
    obtain ⟨ρ, b1, b2, b3⟩ := copy_s2M (N := N) ν hN
    have hm : ∀ k, k ≠ 33 → k ≠ 34 → ρ k = μ k := fun k h1 h2 => (b3 k h2).trans (a3 k h1)
    rw [i1, if_neg (show ¬ (1 : Int32) = 0 by decide), i3, t9, if_pos rfl, a1, bp_s, b1, bp_s]
    unfold D_X0_take_n
    rw [bp_s]
    show Ok2 n (some (σ 15 5, _)) (some (ρ 31 23, _))
    rw [hm 31 (by decide) (by decide), k4, i6]
    refine ⟨_, _, _, rfl, rfl, C, P, J, R, gr, by omega, ?_, ?_, ⟨hid, ns, kd, sr, sj, st, ⟨k1, k2, k3, rfl, fun j hj => ?_, fun i hi => ?_⟩, rfl, fun q => by omega, fun _ => i5⟩, Or.inr ⟨i1, i2, ?_, hid, ns, kd, sr, sj, st, Crs.move ⟨k1, k2, k3, k4, k5, k6⟩ rfl rfl rfl rfl rfl (hm 39 (by decide) (by decide)) (hm 40 (by decide) (by decide)), ?_, ?_⟩, ?_⟩
    · obtain ⟨np, pg, p1, p2, p3, p4⟩ := hp
      exact ⟨np, pg, p1, p2, by show ρ 31 1 = _; rw [hm 31 (by decide) (by decide)]; exact p3, fun j hj => by
        show σ 2 j = _ ∧ ρ 32 j = _ ∧ _
        rw [hm 32 (by decide) (by decide)]; exact p4 j hj⟩
    · obtain ⟨g0, g1, g2, g3, g4, g5, g6, g7, g8, g9⟩ := hG
      refine ⟨g0, g1, g2, g3, g4, ?_, ?_, ?_, ?_, g9⟩
      · show ρ 31 3 = _; rw [hm 31 (by decide) (by decide)]; exact g5
      · show ρ 31 4 = _; rw [hm 31 (by decide) (by decide)]; exact g6
      · show ρ 31 5 = _; rw [hm 31 (by decide) (by decide)]; exact g7
      · show ρ 31 6 = _; rw [hm 31 (by decide) (by decide)]; exact g8
    · obtain ⟨q1, q2, q3⟩ := k5 j hj
      show kd j < 5 ∧ va_cpy (σ 16) (σ 11) 0 0 3 j = _ ∧ ρ 33 j = _
      rw [cpy_in (by omega), b3 33 (by decide), a2 j (by omega)]
      exact ⟨q1, q2, q3⟩
    · obtain ⟨c1, c2, c3, c4, c5, c6, c7, c8, c9⟩ := k6 i hi
      show _ ∧ _ ∧ _ ∧ va_cpy (σ 17) (σ 12) 0 0 12 i = _ ∧ va_cpy (σ 18) (σ 13) 0 0 12 i = _ ∧ va_cpy (σ 19) (σ 14) 0 0 12 i = _ ∧ ρ 34 (3 * i) = _ ∧ ρ 34 (3 * i + 1) = _ ∧ ρ 34 (3 * i + 2) = _
      rw [cpy_in (by omega), cpy_in (by omega), cpy_in (by omega), b2 _ (by omega), b2 _ (by omega), b2 _ (by omega), a3 40 (by decide)]
      exact ⟨c1, c2, c3, c4, c5, c6, c7, c8, c9⟩
    · show ρ 31 21 = _; rw [hm 31 (by decide) (by decide)]; exact i3
    · show ρ 31 22 = _; rw [hm 31 (by decide) (by decide)]; exact i5
    · show ρ 31 23 = _; rw [hm 31 (by decide) (by decide)]; exact i6
    · obtain ⟨bd, ld, pd, tr, t1, t2, t3, t4, t5, t6, t7, t8, t9, t10, t11, t12, t13, t14⟩ := hT
      refine ⟨bd, ld, pd, tr, t1, t2, t3, t4, ?_, t6, ?_, t8, ?_, t10, ?_, t12, t13, t14⟩
      · show ρ 31 9 = _; rw [hm 31 (by decide) (by decide)]; exact t5
      · show ρ 31 15 = _; rw [hm 31 (by decide) (by decide)]; exact t7
      · show ρ 31 16 = _; rw [hm 31 (by decide) (by decide)]; exact t9
      · show ρ 31 17 = _; rw [hm 31 (by decide) (by decide)]; exact t11
