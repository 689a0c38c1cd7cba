/-! calls that read or write what is shown -/
/-- a pure answer, with its state -/
def pu (σ : St) (x : Option Int32) : Option (Int32 × St) := x.map (fun r => (r, σ))
theorem Ok2.pure {n : Nat} {σ μ : St} (h : RelE n σ μ) {r : Int32} : Ok2 n (pu σ (some r)) (pu μ (some r)) := ⟨r, σ, μ, rfl, rfl, h.up⟩
theorem Ok2.same {n : Nat} {σ μ : St} (h : RelE n σ μ) {r : Int32} : Ok2 n (some (r, σ)) (some (r, μ)) := ⟨r, σ, μ, rfl, rfl, h.up⟩
theorem q_hide {n : Nat} {σ μ : St} (h : RelE n σ μ) (x : Int32) : Ok2 n (D_X11_hide σ x) (D_X12_hide μ x) := by
  have h0 := h
  obtain ⟨C, P, J, R, gr, hn, hp, hG, ⟨hid, ns, kd, sr, sj, st, ⟨k1, k2, k3, k4, k5, k6⟩, n2, n3, n4⟩, hI, hT⟩ := h
  have l := hG.1.le
  unfold D_X11_hide D_X12_hide
  rw [isRow_X hG, isRow_M hG, bp_s, bp_s]
  rcases tI_cases x (n := R) (by omega) with t | ⟨j, hj, rfl, t⟩
  · rw [t, if_pos rfl, if_pos rfl]
    exact Ok2.same h0
  · rw [t, if_neg (by decide), if_neg (by decide), k3, n4 (by omega)]
    exact ⟨_, _, _, rfl, rfl, C, P, J, R, gr, by omega, hp, hG, ⟨j, ns, kd, sr, sj, st, ⟨k1, fun _ => hj, rfl, k4, k5, k6⟩, n2, fun e => by omega, fun _ => rfl⟩, hI, hT⟩
theorem q_swap {n : Nat} {σ μ : St} (h : RelE n σ μ) (x y : Int32) : Ok2 n (D_X11_swap σ x y) (D_X12_swap μ x y) := by
  have h0 := h
  obtain ⟨C, P, J, R, gr, hn, hp, hG, ⟨hid, ns, kd, sr, sj, st, ⟨k1, k2, k3, k4, k5, k6⟩, n2, n3, n4⟩, hI, hT⟩ := h
  have l := hG.1.le
  unfold D_X11_swap D_X12_swap
  rw [isJudge_X hG, isJudge_M hG, bp_s, bp_s]
  rcases tI_cases x (n := J) (by omega) with t | ⟨j, hj, rfl, t⟩
  · rw [t, if_pos rfl, if_pos rfl]
    exact Ok2.same h0
  · rw [t, if_neg (by decide), if_neg (by decide), isKind_X, in_0l y (4 : Int64) (n := 5) rfl, bp_s, bp_s]
    rcases tI_cases y (n := 5) (by omega) with t2 | ⟨v, hv, rfl, t2⟩
    · rw [t2, if_pos rfl, if_pos rfl]
      exact Ok2.same h0
    · obtain ⟨q1, q2, q3⟩ := k5 j hj
      rw [t2, if_neg (by decide), if_neg (by decide), gi_nI (by omega) (by omega), gi_nI (by omega) (by omega), gi_nI (by omega) (by omega), gi_nI (by omega) (by omega), nI_clamp (by omega), show σ 11 j = nI (kd j) from q2, q3]
      refine ⟨_, _, _, rfl, rfl, C, P, J, R, gr, by omega, hp, hG, ⟨hid, ns, fun i => if i = j then v else kd i, sr, sj, st, ⟨k1, k2, k3, k4, fun i hi => ?_, k6⟩, n2, n3, n4⟩, hI, hT⟩
      show (if i = j then v else kd i) < 5 ∧ upd (σ 11) j (nI v) i = nI (if i = j then v else kd i) ∧ upd (μ 33) j (nI v) i = nI (if i = j then v else kd i)
      by_cases e : i = j
      · subst e
        rw [if_pos rfl, upd_at, upd_at]
        exact ⟨hv, rfl, rfl⟩
      · rw [if_neg e, upd_ne e, upd_ne e]
        exact k5 i hi
theorem q_as {n : Nat} {σ μ : St} (h : RelE n σ μ) (x y : Int32) : Ok2 n (pu σ (D_X11_as σ x y)) (pu μ (D_X12_as μ x y)) := by
  have h0 := h
  obtain ⟨C, P, J, R, gr, hn, hp, hG, ⟨hid, ns, kd, sr, sj, st, hNow⟩, hI, hT⟩ := h
  have l := hG.1.le
  unfold D_X11_as D_X12_as J_X12_as_55 J_X12_as_59 J_X12_as_60
  rw [isJudge_X hG, isJudge_M hG, bp_s, bp_s]
  rcases tI_cases x (n := J) (by omega) with t | ⟨j, hj, rfl, t⟩
  · rw [t, if_pos rfl, if_pos rfl]
    exact Ok2.pure h0
  · rw [t, if_neg (by decide), if_neg (by decide), isKind_X, in_0l y (4 : Int64) (n := 5) rfl, bp_s, bp_s]
    rcases tI_cases y (n := 5) (by omega) with t2 | ⟨v, hv, rfl, t2⟩
    · rw [t2, if_pos rfl, if_pos rfl]
      exact Ok2.pure h0
    · obtain ⟨q1, q2, q3⟩ := hNow.1.2.2.2.2.1 j hj
      rw [t2, if_neg (by decide), if_neg (by decide), judgeAt_X hNow (by omega) hj, bp_s, gi_nI (by omega) (by omega), gi_nI (by omega) (by omega), nI_clamp (by omega), q3]
      unfold D_X11_isOf
      have hk : ∀ k v : Nat, k < 5 → v < 5 → ∀ z : Int32, (bp (if nI v = (1 : Int32) then gk k (gb (inK 1 k) (some (inK 1 k))) else if nI v = (2 : Int32) then gk k (gb (inK 2 k) (some (inK 2 k))) else if nI v = (3 : Int32) then gk k (gb (inK 3 k) (some (inK 3 k))) else if nI v = (4 : Int32) then gk k (gb (inK 4 k) (some (inK 4 k))) else some (1 : Int32)) (fun r6 => if r6 = 0 then some (-1 : Int32) else some z)) = (if nI v = 0 then (if (1 : Int32) = 0 then some (-1 : Int32) else some z) else if nI v = nI k then (if (1 : Int32) = 0 then some (-1 : Int32) else some z) else if nI v = (1 : Int32) then (if nI k = (4 : Int32) then (if (1 : Int32) = 0 then some (-1 : Int32) else some z) else (if (0 : Int32) = 0 then some (-1 : Int32) else some z)) else (if (0 : Int32) = 0 then some (-1 : Int32) else some z)) := by
        intro k v hk hv z
        rcases (show k = 0 ∨ k = 1 ∨ k = 2 ∨ k = 3 ∨ k = 4 by omega) with rfl | rfl | rfl | rfl | rfl <;> rcases (show v = 0 ∨ v = 1 ∨ v = 2 ∨ v = 3 ∨ v = 4 by omega) with rfl | rfl | rfl | rfl | rfl <;> rfl
      rw [hk (kd j) v q1 hv]
      split
      · exact Ok2.pure h0
      · split
        · exact Ok2.pure h0
        · split
          · split <;> exact Ok2.pure h0
          · exact Ok2.pure h0
theorem q_seen {n : Nat} {σ μ : St} (h : RelE n σ μ) (x y : Int32) : Ok2 n (pu σ (D_X11_seen σ x y)) (pu μ (D_X12_seen μ x y)) := by
  have h0 := h
  obtain ⟨C, P, J, R, gr, hn, hp, hG, ⟨hid, ns, kd, sr, sj, st, ⟨k1, k2, k3, k4, k5, k6⟩, n2, n3, n4⟩, hI, hT⟩ := h
  unfold D_X11_seen D_X12_seen
  rw [k4, n2, in_0n x (by omega), bp_s]
  rcases pk_ix x (n := ns) (by omega) with t | t | ⟨i, hi, rfl⟩
  · have e : tI x ns = 0 := by
      rcases tI_cases x (n := ns) (by omega) with q | ⟨j, q1, q2, -⟩
      · exact q
      · rw [q2] at t; exact absurd t (nI_pos (by omega))
    rw [if_pos t, e, if_pos rfl]
    exact Ok2.pure h0
  · have e : tI x ns = 0 := by
      rcases tI_cases x (n := ns) (by omega) with q | ⟨j, q1, q2, -⟩
      · exact q
      · rw [q2] at t; exact absurd t (nI_ge q1 (by omega))
    have t1 : ¬ x < 0 := fun q => by
      have a1 := Int32.lt_iff_toInt_lt.mp q
      have a2 := Int32.le_iff_toInt_le.mp t
      rw [nI_toInt (by omega)] at a2
      rw [Int32.toInt_zero] at a1
      omega
    have t2 : ¬ x < nI ns := fun q => by
      have a1 := Int32.lt_iff_toInt_lt.mp q
      have a2 := Int32.le_iff_toInt_le.mp t
      omega
    rw [if_neg t1, if_neg t2, e, if_pos rfl]
    exact Ok2.pure h0
  · rw [if_neg (nI_pos (by omega)), if_pos (nI_lt hi (by omega)), tI_nI hi (by omega), if_neg (show ¬ (1 : Int32) = 0 by decide), in_0l y (2 : Int64) (n := 3) rfl, bp_s, gi_nI (by omega) (by omega), gi_nI (by omega) (by omega), gi_nI (by omega) (by omega), nI_clamp (by omega)]
    obtain ⟨a1, a2, a3, a4, a5, a6, a7, a8, a9⟩ := k6 i hi
    rcases tI_cases y (n := 3) (by omega) with t2 | ⟨v, hv, rfl, t2⟩
    · have e : ∀ v : Nat, v < 3 → ¬ y = nI v := fun v hv q => by
        rw [q, tI_nI hv (by omega)] at t2
        exact absurd t2 (by decide)
      rw [t2, if_neg (show ¬ y = (0 : Int32) from e 0 (by omega)), if_neg (show ¬ y = (1 : Int32) from e 1 (by omega)), if_neg (show ¬ y = (2 : Int32) from e 2 (by omega)), if_pos rfl]
      exact Ok2.pure h0
    · rw [t2, if_neg (show ¬ (1 : Int32) = 0 by decide), nI_m3, nI_add, gi_nI (by omega) (by omega), nI_clamp (by omega)]
      rcases (show v = 0 ∨ v = 1 ∨ v = 2 by omega) with rfl | rfl | rfl
      · rw [if_pos (by decide), show σ 12 i = nI (sr i) from a4, show μ 34 (3 * i + 0) = nI (sr i) from a7]
        exact Ok2.pure h0
      · rw [if_neg (by decide), if_pos (by decide), show σ 13 i = nI (sj i) from a5, a8]
        exact Ok2.pure h0
      · rw [if_neg (by decide), if_neg (by decide), if_pos (by decide), show σ 14 i = nI (st i) from a6, a9]
        exact Ok2.pure h0
/-- what both sides tell -/
theorem tell_both {N C P J R : Nat} {σ μ : St} (hG : RGm C P J R σ μ) (hN : 5000 ≤ N) {a b kd : Nat} (ha : a < R) (hb : b < R) (hk : kd < 5) : D_wd σ kd (nI a) (nI b) = some (nI (tl C P kd a b)) ∧ D_X12_tellsBy N μ (nI kd) (nI a) (nI b) = some (nI (tl C P kd a b)) ∧ tl C P kd a b ≤ 30 := by
  have l := hG.1.le
  obtain ⟨o1, o2, o3, o4, o5, o6, o7⟩ := hG.1.on (by omega)
  obtain ⟨-, -, -, -, -, g5, g6, g7, g8, g9⟩ := hG
  have hT := g9 (by omega)
  have t := tl_le (C := C) (P := P) (kd := kd) (a := a) (b := b) (by omega)
  exact ⟨wordX hT (by omega) o3 (by omega) (by omega) (by omega) hk, tellM g5 g6 (by omega) (by omega) (by omega) (by omega) (by omega) (by omega) (by omega) hk, by omega⟩
theorem q_tells {N n : Nat} {σ μ : St} (hN : 5000 ≤ N) (h : RelE n σ μ) (x y z : Int32) : Ok2 n (pu σ (D_X11_tells σ x y z)) (pu μ (D_X12_tells N μ x y z)) := by
  have h0 := h
  obtain ⟨C, P, J, R, gr, hn, hp, hG, ⟨hid, ns, kd, sr, sj, st, hNow⟩, hI, hT⟩ := h
  have l := hG.1.le
  unfold D_X11_tells D_X12_tells
  rw [isJudge_X hG, isJudge_M hG, bp_s, bp_s, isRow_X hG, isRow_M hG, bp_s, bp_s, isRow_X hG, isRow_M hG, bp_s, bp_s]
  rcases tI_cases x (n := J) (by omega) with t | ⟨j, hj, rfl, t⟩
  · rw [t, if_pos rfl, if_pos rfl]
    exact Ok2.pure h0
  · rw [t, if_neg (show ¬ (1 : Int32) = 0 by decide), if_neg (show ¬ (1 : Int32) = 0 by decide)]
    rcases tI_cases y (n := R) (by omega) with t | ⟨a, ha, rfl, t⟩
    · rw [t, if_pos rfl, if_pos rfl]
      exact Ok2.pure h0
    · rw [t, if_neg (show ¬ (1 : Int32) = 0 by decide), if_neg (show ¬ (1 : Int32) = 0 by decide)]
      rcases tI_cases z (n := R) (by omega) with t | ⟨b, hb, rfl, t⟩
      · rw [t, if_pos rfl, if_pos rfl]
        exact Ok2.pure h0
      · obtain ⟨q1, q2, q3⟩ := hNow.1.2.2.2.2.1 j hj
        obtain ⟨w1, w2, -⟩ := tell_both (N := N) hG hN ha hb q1
        rw [t, if_neg (show ¬ (1 : Int32) = 0 by decide), if_neg (show ¬ (1 : Int32) = 0 by decide), judgeAt_X hNow (by omega) hj, bp_s, w1, bp_s, gi_nI (by omega) (by omega), nI_clamp (by omega), q3, w2, bp_s]
        exact Ok2.pure h0
theorem q_count {n : Nat} {σ μ : St} (h : RelE n σ μ) (x : Int32) : Ok2 n (pu σ (D_X11_count σ x)) (pu μ (D_X12_count μ x)) := by
  have h0 := h
  obtain ⟨C, P, J, R, gr, hn, ⟨np, pg, p1, p2, p3, p4⟩, hG, ⟨hid, ns, kd, sr, sj, st, ⟨k1, k2, k3, k4, k5, k6⟩, n2, n3, n4⟩, hI, ⟨bd, ld, pd, tr, t1, t2, t3, t4, t5, t6, t7, t8, t9, t10, t11, -⟩⟩ := h
  have e := gameOn_X hG
  obtain ⟨-, g1, g2, g3, g4, g5, g6, g7, g8, g9⟩ := hG
  unfold D_X11_count D_X12_count D_X12_countOf
  rw [e, bp_s, g1, g2, g3, g4, g5, g6, g7, g8, k4, n2, p2, p3, t4, t5, t6, t7, t8, t9, t10, t11, k3]
  have e5 : (if (if R = 0 then (0 : Int32) else 1) = 0 then some (-1 : Int32) else some (nI hid)) = some (μ 31 7) := by
    by_cases e : R = 0
    · rw [if_pos e, if_pos rfl, n3 e]
    · rw [if_neg e, if_neg (by decide), n4 (by omega)]
  rw [e5]
  repeat' split
  all_goals exact Ok2.pure h0
