/-! game -/
def hv (C : Nat) (pg : Nat → Nat) (e : Nat) : Nat → Nat
  | 0 => 0
  | k + 1 => hv C pg e k * C + (pg (e + 1 + k) - 97)
theorem hv_lt {C : Nat} {pg : Nat → Nat} {e : Nat} (hC : 0 < C) : ∀ {k : Nat}, (∀ i, i < k → pg (e + 1 + i) < 97 + C) → hv C pg e k < C ^ k := by
  intro k
  induction k with
  | zero => intro _; exact Nat.one_pos
  | succ k ih =>
    intro h
    have h1 := ih (fun i hi => h i (by omega))
    have h2 := h k (by omega)
    have h3 : (hv C pg e k + 1) * C ≤ C ^ k * C := Nat.mul_le_mul_right C h1
    rw [Nat.add_mul, Nat.one_mul] at h3
    rw [hv, Nat.pow_succ]
    omega
/-- a page that is a game -/
def PgG (np : Nat) (pg : Nat → Nat) (e P C : Nat) : Prop := np ≤ 12 ∧ ke pg np = e ∧ 4 ≤ e ∧ e ≤ 6 ∧ np = e + 1 + P ∧ 1 ≤ P ∧ P ≤ 3 ∧ 2 ≤ C ∧ C ≤ 6 ∧ pg 0 = 48 + P ∧ pg 1 = 48 + C ∧ (∀ j, j < e - 3 → kn (pg (3 + j)) < 5) ∧ ∀ i, i < P → 97 ≤ pg (e + 1 + i) ∧ pg (e + 1 + i) < 97 + C
theorem pgG_of {np : Nat} {pg : Nat → Nat} (h12 : np ≤ 12) (hs : ∀ i, i < np → ms pg i = true) (hk : ¬ ke pg np = 0) (hn : np = ke pg np + 1 + (pg 0 - 48)) : PgG np pg (ke pg np) (pg 0 - 48) (pg 1 - 48) := by
  obtain ⟨v1, v2, v3, v4⟩ := ke_val hk
  have q0 := ms0 (hs 0 (by omega))
  have q1 := ms1 (hs 1 (by omega))
  have hge : ∀ i, 3 ≤ i → i < np → (if ke pg i = 0 then (if pg i = 59 then decide (3 < i) else decide (i < 6 ∧ kn (pg i) < 5)) else decide (i ≤ ke pg i + (pg 0 - 48) ∧ 97 ≤ pg i ∧ pg i < 97 + (pg 1 - 48))) = true := fun i h3 hi => by
    have := hs i hi
    rw [ms, if_neg (by omega), if_neg (by omega), if_neg (by omega)] at this
    exact this
  have k1 : ke pg (ke pg np + 1) = ke pg np := by rw [ke, if_pos v4, if_pos ⟨v1, v3⟩]
  have hn59 : ∀ i, 3 ≤ i → i < ke pg np → ¬ pg i = 59 := fun i h3 hi q => by
    have a1 : ke pg i = 0 := ke_0 v4 (by omega)
    have a2 : ke pg (i + 1) = 0 := ke_0 v4 (by omega)
    rw [ke, if_pos a1, if_pos ⟨h3, q⟩] at a2
    omega
  have hkk : ∀ i, 3 ≤ i → i < ke pg np → i < 6 ∧ kn (pg i) < 5 := fun i h3 hi => by
    have := hge i h3 (by omega)
    rw [if_pos (ke_0 v4 (by omega)), if_neg (hn59 i h3 hi)] at this
    exact of_decide_eq_true this
  refine ⟨h12, rfl, ?_, ?_, hn, by omega, by omega, by omega, by omega, by omega, by omega, fun j hj => (hkk (3 + j) (by omega) (by omega)).2, fun i hi => ?_⟩
  · rcases Nat.lt_or_ge 3 (ke pg np) with q | q
    · exact q
    · have e3 : ke pg np = 3 := by omega
      have := hge 3 (by omega) (by omega)
      rw [e3] at v3 v4
      rw [if_pos v4, if_pos v3] at this
      exact absurd (of_decide_eq_true this) (by omega)
  · rcases Nat.lt_or_ge 6 (ke pg np) with q | q
    · have := (hkk 6 (by omega) q).1
      omega
    · exact q
  · have := hge (ke pg np + 1 + i) (by omega) (by omega)
    have ks : ke pg (ke pg np + 1 + i) = ke pg np := (ke_stay (i := ke pg np + 1) (by rw [k1]; exact hk) (by omega)).trans k1
    rw [ks, if_neg hk] at this
    have := of_decide_eq_true this
    exact ⟨this.2.1, this.2.2⟩
theorem isGameX {N np k : Nat} {pg : Nat → Nat} {σ : St} (hp : ∀ j, j < np → σ 2 j = nI (pg j) ∧ 1 ≤ pg j ∧ pg j ≤ 126) (hnp : np ≤ 12) (h1 : σ 1 1 = nI np) (hN : 5000 ≤ N) (hk : k ≤ np) (hf : D_X3_firstFault N σ = some (nI k)) :
    D_X3_isGame N σ = some (if ¬ ke pg np = 0 ∧ nI np = (nI (ke pg np) + (1 : Int32)) + (nI (pg 0) - (48 : Int32)) ∧ k = np then 1 else 0) := by
  unfold D_X3_isGame
  rw [h1, kindsEndX hp hnp hN (Nat.le_refl _), bp_s, hf]
  by_cases c1 : ke pg np = 0
  · rw [if_pos c1, if_pos rfl, if_neg (fun q => q.1 c1)]
  · obtain ⟨v1, v2, -⟩ := ke_val c1
    have hm1 : ¬ nI (ke pg np) = (-1 : Int32) := fun q => by
      have := nI_pos (n := ke pg np) (by omega)
      rw [q] at this
      exact absurd this (by decide)
    unfold D_X3_pegs
    rw [if_neg c1, if_neg hm1, show (0 : Int32) = nI 0 from rfl, gi_nI (i := 0) (by omega) (by omega), nI_clamp (by omega), bp_s, bp_s, (hp 0 (by omega)).1]
    by_cases c2 : nI np = (nI (ke pg np) + (1 : Int32)) + (nI (pg 0) - (48 : Int32))
    · rw [if_pos c2]
      by_cases c3 : k = np
      · rw [if_pos (by rw [c3]), if_pos ⟨c1, c2, c3⟩]
      · rw [if_neg (by rw [nI_eq (by omega) (by omega)]; exact c3), if_neg (fun q => c3 q.2.2)]
    · rw [if_neg c2, if_neg (fun q => c2 q.2.1)]
theorem rowX {N np e P C : Nat} {pg : Nat → Nat} {s : St} (hg : PgG np pg e P C) (hp : ∀ j, j < np → s 2 j = nI (pg j) ∧ 1 ≤ pg j ∧ pg j ≤ 126) (h1 : s 1 1 = nI np) (hN : 5000 ≤ N) : D_X3_rowWritten N s = some (nI (hv C pg e P)) := by
  obtain ⟨a1, a2, a3, a4, a5, a6, a7, a8, a9, b0, b1, b2, b3⟩ := hg
  unfold D_X3_rowWritten
  rw [h1, kindsEndX hp a1 hN (Nat.le_refl _), bp_s, a2, if_neg (show ¬ e = 0 by omega), nI_1]
  refine loopQ (S := Unit) (fun n i _ => L_X3_rowWritten_13 N s n (nI (hv C pg e i)) (nI (e + 1 + i))) P (fun i _ => True) (fun o => o = some (nI (hv C pg e P))) ?_ ?_ N 0 () (Nat.zero_le _) (by omega) trivial
  · intro n _ _
    show L_X3_rowWritten_13 N s (n + 1) (nI (hv C pg e P)) (nI (e + 1 + P)) = _
    rw [L_X3_rowWritten_13, h1, if_pos (show nI np ≤ nI (e + 1 + P) by rw [nI_leI (by omega) (by omega)]; omega)]
  · intro n i _ hi _ ih
    show L_X3_rowWritten_13 N s (n + 1) (nI (hv C pg e i)) (nI (e + 1 + i)) = _
    obtain ⟨d1, d2⟩ := b3 i hi
    unfold L_X3_rowWritten_13 D_X3_colours
    rw [h1, if_neg (show ¬ nI np ≤ nI (e + 1 + i) by rw [nI_leI (by omega) (by omega)]; omega), show (1 : Int32) = nI 1 from rfl, gi_nI (i := 1) (by omega) (by omega), nI_clamp (by omega), bp_s, gi_nI (by omega) (by omega), nI_clamp (by omega), (hp 1 (by omega)).1, (hp (e + 1 + i) (by omega)).1, b1, show (48 : Int32) = nI 48 from rfl, pk_sub (show 48 ≤ 48 + C by omega), show 48 + C - 48 = C by omega, pk_mul, nI_add, show (97 : Int32) = nI 97 from rfl, pk_sub (show 97 ≤ hv C pg e i * C + pg (e + 1 + i) by omega), nI_add, show hv C pg e i * C + pg (e + 1 + i) - 97 = hv C pg e (i + 1) by rw [hv]; omega]
    exact ih () trivial
theorem gameX {N np e P C : Nat} {pg : Nat → Nat} {σ : St} (hg : PgG np pg e P C) (hp : ∀ j, j < np → σ 2 j = nI (pg j) ∧ 1 ≤ pg j ∧ pg j ≤ 126) (h1 : σ 1 1 = nI np) (hN : 5000 ≤ N) (hG : D_X3_isGame N σ = some 1) :
    ∃ s, D_X11_game N σ = some (nI (C ^ P), pt (pt (pt (pt (pt s 10 4 (nI (hv C pg e P))) 10 5 0) 0 10 0) 0 11 (σ 0 11 + 1)) 1 1 0) ∧ TabX s C P ∧ Kp [0, 11, 20, 21, 22, 23] σ s ∧ s 0 9 = nI (e - 3) ∧ (∀ q, q ≠ 9 → s 0 q = σ 0 q) ∧ ∀ j, j < e - 3 → s 11 j = nI (kn (pg (3 + j))) := by
  have hg0 := hg
  obtain ⟨a1, a2, a3, a4, a5, a6, a7, a8, a9, b0, b1, b2, b3⟩ := hg
  obtain ⟨s5, l1, l2, l3⟩ := layX (N := N) σ a6 a7 a8 a9 (by omega)
  have ep : D_X3_pegs σ = some (nI P) := by
    unfold D_X3_pegs
    rw [show (0 : Int32) = nI 0 from rfl, gi_nI (i := 0) (by omega) (by omega), nI_clamp (by omega), (hp 0 (by omega)).1, b0, show (48 : Int32) = nI 48 from rfl, pk_sub (show 48 ≤ 48 + P by omega), show 48 + P - 48 = P by omega]
  have ec : D_X3_colours σ = some (nI C) := by
    unfold D_X3_colours
    rw [show (1 : Int32) = nI 1 from rfl, gi_nI (i := 1) (by omega) (by omega), nI_clamp (by omega), (hp 1 (by omega)).1, b1, show (48 : Int32) = nI 48 from rfl, pk_sub (show 48 ≤ 48 + C by omega), show 48 + C - 48 = C by omega]
  have hp5 : ∀ s : St, s 2 = σ 2 → ∀ j, j < np → s 2 j = nI (pg j) ∧ 1 ≤ pg j ∧ pg j ≤ 126 := fun s hs j hj => by rw [hs]; exact hp j hj
  unfold D_X11_game
  rw [hG, bp_s, if_neg (show ¬ (1 : Int32) = 0 by decide), ep, bp_s, ec, bp_s, l1, bp_s]
  unfold D_X3_judgesWritten
  rw [l3 1 (by decide), h1, kindsEndX (hp5 s5 (l3 2 (by decide))) a1 hN (Nat.le_refl _), bp_s, a2, if_neg (show ¬ e = 0 by omega), show (3 : Int32) = nI 3 from rfl, pk_sub (show 3 ≤ e by omega), bp_s]
  refine loopQ (S := St) (fun n i s => L_X11_game_47 N n (nI i) s) (e - 3) (fun i s => Kp [11] (pt s5 0 9 (nI (e - 3))) s ∧ ∀ j, j < i → s 11 j = nI (kn (pg (3 + j)))) (fun o => ∃ s, o = some (nI (C ^ P), pt (pt (pt (pt (pt s 10 4 (nI (hv C pg e P))) 10 5 0) 0 10 0) 0 11 (σ 0 11 + 1)) 1 1 0) ∧ TabX s C P ∧ Kp [0, 11, 20, 21, 22, 23] σ s ∧ s 0 9 = nI (e - 3) ∧ (∀ q, q ≠ 9 → s 0 q = σ 0 q) ∧ ∀ j, j < e - 3 → s 11 j = nI (kn (pg (3 + j)))) ?_ ?_ N 0 _ (Nat.zero_le _) (by omega) ⟨Kp.rfl, fun j hj => absurd hj (Nat.not_lt_zero j)⟩
  · intro n s ⟨i1, i2⟩
    have z0 : s 0 = upd (s5 0) 9 (nI (e - 3)) := (i1 0 (by decide)).trans pt_at
    have zo : ∀ k, k ≠ 0 → k ∉ [11] → s k = s5 k := fun k h0 h11 => (i1 k h11).trans (pt_ne h0)
    have z2 : s 2 = σ 2 := by rw [zo 2 (by decide) (by decide)]; exact l3 2 (by decide)
    have z1 : s 1 1 = nI np := by rw [zo 1 (by decide) (by decide), l3 1 (by decide)]; exact h1
    have zt : TabX s C P := by
      unfold TabX at *
      rw [zo 20 (by decide) (by decide), zo 21 (by decide) (by decide), zo 22 (by decide) (by decide), zo 23 (by decide) (by decide)]
      exact l2
    have zq : ∀ q, q ≠ 9 → s 0 q = σ 0 q := fun q hq => by rw [z0, upd_ne hq, l3 0 (by decide)]
    show ∃ s', L_X11_game_47 N (n + 1) (nI (e - 3)) s = _ ∧ _
    rw [L_X11_game_47, show s 0 9 = nI (e - 3) by rw [z0]; exact upd_at, if_pos (show nI (e - 3) ≤ nI (e - 3) by rw [nI_leI (by omega) (by omega)]; omega), rowX hg0 (hp5 s z2) z1 hN, bp_s, zt.2.2.1, zq 11 (by decide)]
    refine ⟨s, rfl, zt, fun k hk => ?_, by rw [z0]; exact upd_at, zq, i2⟩
    simp only [List.mem_cons, List.not_mem_nil, or_false, not_or] at hk
    rw [zo k hk.1 (by simp only [List.mem_cons, List.not_mem_nil, or_false]; exact hk.2.1), l3 k (by simp only [List.mem_cons, List.not_mem_nil, or_false, not_or]; exact hk.2.2)]
  · intro n i s hi ⟨i1, i2⟩ ih
    have z0 : s 0 = upd (s5 0) 9 (nI (e - 3)) := (i1 0 (by decide)).trans pt_at
    have zo : ∀ k, k ≠ 0 → k ∉ [11] → s k = s5 k := fun k h0 h11 => (i1 k h11).trans (pt_ne h0)
    have z2 : s 2 = σ 2 := by rw [zo 2 (by decide) (by decide)]; exact l3 2 (by decide)
    have p3 := (hp (3 + i) (by omega)).2.2
    show ∃ s', L_X11_game_47 N (n + 1) (nI i) s = _ ∧ _
    unfold L_X11_game_47 D_X3_kindWritten
    rw [show s 0 9 = nI (e - 3) by rw [z0]; exact upd_at, if_neg (show ¬ nI (e - 3) ≤ nI i by rw [nI_leI (by omega) (by omega)]; omega), show (3 : Int32) = nI 3 from rfl, nI_add, gi_nI (by omega) (by omega), nI_clamp (by omega), z2, (hp (3 + i) (by omega)).1, indexX hN (by omega), bp_s, bp_s, gi_nI (by omega) (by omega), nI_clamp (by omega), nI_1 i]
    refine ih _ ⟨fun k hk => ?_, fun j hj => ?_⟩
    · rw [pt_ne (fun e => hk (by rw [e]; decide))]; exact i1 k hk
    · show upd (s 11) i _ j = _
      by_cases ej : j = i
      · subst ej
        rw [upd_at]
        unfold knI
        rw [if_pos (b2 j hi)]
      · rw [upd_ne ej]; exact i2 j (by omega)
theorem gameM {N np e P C : Nat} {pg : Nat → Nat} {μ ν : St} (hg : PgG np pg e P C) (hp : ∀ j, j < np → ν 32 j = nI (pg j) ∧ 1 ≤ pg j ∧ pg j ≤ 126) (h1 : ν 31 1 = nI np) (h2 : ν 31 2 = nI e) (hN : 5000 ≤ N) (hF : D_X12_faultOf N μ = some (nI np, ν)) :
    ∃ s, D_X12_game N μ = some (nI (C ^ P), pt (pt (pt s 31 8 0) 31 9 (ν 31 9 + 1)) 31 1 0) ∧ (∀ k, k ∉ [31, 33] → s k = ν k) ∧ s 31 3 = nI P ∧ s 31 4 = nI C ∧ s 31 5 = nI (C ^ P) ∧ s 31 6 = nI (e - 3) ∧ s 31 7 = nI (hv C pg e P) ∧ (∀ q, q ∉ [3, 4, 5, 6, 7] → s 31 q = ν 31 q) ∧ ∀ j, j < e - 3 → s 33 j = nI (kn (pg (3 + j))) := by
  obtain ⟨a1, a2, a3, a4, a5, a6, a7, a8, a9, b0, b1, b2, b3⟩ := hg
  have lp := pow_le (C := C) (P := P) a7 a9
  unfold D_X12_game
  rw [hF, bs_s, h1, if_neg (nI_nlt (Nat.le_refl _) (by omega)), h2, if_neg (nI_ne0 (by omega) (by omega)), show (0 : Int32) = nI 0 from rfl, show (1 : Int32) = nI 1 from rfl, gi_nI (i := 0) (by omega) (by omega), gi_nI (i := 0) (by omega) (by omega), gi_nI (i := 1) (by omega) (by omega), nI_clamp (by omega), nI_clamp (by omega), (hp 0 (by omega)).1, (hp 1 (by omega)).1, b0, b1, show (48 : Int32) = nI 48 from rfl, pk_sub (show 48 ≤ 48 + P by omega), pk_sub (show 48 ≤ 48 + C by omega), show 48 + P - 48 = P by omega, show 48 + C - 48 = C by omega, pk_sub (show e ≤ np by omega), pk_sub (show 1 ≤ np - e by omega), if_pos (by rw [show np - e - 1 = P by omega]), show (3 : Int32) = nI 3 from rfl, pk_sub (show 3 ≤ e by omega)]
  refine loopQ (S := St) (fun n i s => L_X12_game_92 N n (nI i) s) P (fun i s => (∀ k, k ∉ [31] → s k = ν k) ∧ s 31 3 = nI P ∧ s 31 4 = nI C ∧ s 31 5 = nI (C ^ i) ∧ s 31 6 = nI (e - 3) ∧ s 31 7 = nI (hv C pg e i) ∧ (∀ q, q ∉ [3, 4, 5, 6, 7] → s 31 q = ν 31 q)) (fun o => ∃ s, o = some (nI (C ^ P), pt (pt (pt s 31 8 (nI 0)) 31 9 (ν 31 9 + nI 1)) 31 1 (nI 0)) ∧ (∀ k, k ∉ [31, 33] → s k = ν k) ∧ s 31 3 = nI P ∧ s 31 4 = nI C ∧ s 31 5 = nI (C ^ P) ∧ s 31 6 = nI (e - 3) ∧ s 31 7 = nI (hv C pg e P) ∧ (∀ q, q ∉ [3, 4, 5, 6, 7] → s 31 q = ν 31 q) ∧ ∀ j, j < e - 3 → s 33 j = nI (kn (pg (3 + j)))) ?_ ?_ N 0 _ (Nat.zero_le _) (by omega) ⟨fun k hk => ?_, rfl, rfl, rfl, rfl, rfl, fun q hq => ?_⟩
  · intro n s0 ⟨i1, i2, i3, i4, i5, i6, i7⟩
    show ∃ s, L_X12_game_92 N (n + 1) (nI P) s0 = _ ∧ _
    rw [L_X12_game_92, i2, if_pos (show nI P ≤ nI P by rw [nI_leI (by omega) (by omega)]; omega)]
    refine loopQ (S := St) (fun n i s => L_X12_game_151 N n (nI i) s) (e - 3) (fun i s => (∀ k, k ∉ [33] → s k = s0 k) ∧ ∀ j, j < i → s 33 j = nI (kn (pg (3 + j)))) (fun o => ∃ s, o = some (nI (C ^ P), pt (pt (pt s 31 8 (nI 0)) 31 9 (ν 31 9 + nI 1)) 31 1 (nI 0)) ∧ (∀ k, k ∉ [31, 33] → s k = ν k) ∧ s 31 3 = nI P ∧ s 31 4 = nI C ∧ s 31 5 = nI (C ^ P) ∧ s 31 6 = nI (e - 3) ∧ s 31 7 = nI (hv C pg e P) ∧ (∀ q, q ∉ [3, 4, 5, 6, 7] → s 31 q = ν 31 q) ∧ ∀ j, j < e - 3 → s 33 j = nI (kn (pg (3 + j)))) ?_ ?_ N 0 s0 (Nat.zero_le _) (by omega) ⟨fun _ _ => rfl, fun j hj => absurd hj (Nat.not_lt_zero j)⟩
    · intro n s ⟨j1, j2⟩
      show ∃ s', L_X12_game_151 N (n + 1) (nI (e - 3)) s = _ ∧ _
      rw [L_X12_game_151, j1 31 (by decide), i5, if_pos (show nI (e - 3) ≤ nI (e - 3) by rw [nI_leI (by omega) (by omega)]; omega), i4, i7 9 (by decide)]
      refine ⟨s, rfl, fun k hk => ?_, by rw [j1 31 (by decide)]; exact i2, by rw [j1 31 (by decide)]; exact i3, by rw [j1 31 (by decide)]; exact i4, by rw [j1 31 (by decide)]; exact i5, by rw [j1 31 (by decide)]; exact i6, fun q hq => by rw [j1 31 (by decide)]; exact i7 q hq, j2⟩
      simp only [List.mem_cons, List.not_mem_nil, or_false, not_or] at hk
      rw [j1 k (by simp only [List.mem_cons, List.not_mem_nil, or_false]; exact hk.2), i1 k (by simp only [List.mem_cons, List.not_mem_nil, or_false]; exact hk.1)]
    · intro n i s hi ⟨j1, j2⟩ ih
      have p3 := (hp (3 + i) (by omega)).2.2
      show ∃ s', L_X12_game_151 N (n + 1) (nI i) s = _ ∧ _
      rw [L_X12_game_151, j1 31 (by decide), i5, if_neg (show ¬ nI (e - 3) ≤ nI i by rw [nI_leI (by omega) (by omega)]; omega), show (3 : Int32) = nI 3 from rfl, nI_add, gi_nI (by omega) (by omega), nI_clamp (by omega), j1 32 (by decide), i1 32 (by decide), (hp (3 + i) (by omega)).1, kindByM _ (by omega), bp_s, gi_nI (by omega) (by omega), nI_clamp (by omega), nI_1 i]
      refine ih _ ⟨fun k hk => ?_, fun j hj => ?_⟩
      · rw [pt_ne (fun e => hk (by rw [e]; decide))]; exact j1 k hk
      · show upd (s 33) i _ j = _
        by_cases ej : j = i
        · subst ej
          rw [upd_at]
          unfold knI
          rw [if_pos (b2 j hi)]
        · rw [upd_ne ej]; exact j2 j (by omega)
  · intro n i s hi ⟨i1, i2, i3, i4, i5, i6, i7⟩ ih
    obtain ⟨d1, d2⟩ := b3 i hi
    show ∃ s', L_X12_game_92 N (n + 1) (nI i) s = _ ∧ _
    rw [L_X12_game_92, i2, if_neg (show ¬ nI P ≤ nI i by rw [nI_leI (by omega) (by omega)]; omega), i7 2 (by decide), h2, nI_1 e, nI_add, gi_nI (by omega) (by omega), nI_clamp (by omega), i3, i4, i6, i1 32 (by decide), (hp (e + 1 + i) (by omega)).1, pk_mul, pk_mul, nI_add, show (97 : Int32) = nI 97 from rfl, pk_sub (show 97 ≤ hv C pg e i * C + pg (e + 1 + i) by omega), show hv C pg e i * C + pg (e + 1 + i) - 97 = hv C pg e (i + 1) by rw [hv]; omega, nI_1 i, ← Nat.pow_succ]
    refine ih _ ⟨fun k hk => ?_, i2, i3, rfl, i5, rfl, fun q hq => ?_⟩
    · rw [pt_ne (fun e => hk (by rw [e]; decide)), pt_ne (fun e => hk (by rw [e]; decide))]; exact i1 k hk
    · show upd (upd (s 31) 5 _) 7 _ q = _
      rw [upd_ne (fun e => hq (by rw [e]; decide)), upd_ne (fun e => hq (by rw [e]; decide))]; exact i7 q hq
  · rw [pt_ne (fun e => hk (by rw [e]; decide)), pt_ne (fun e => hk (by rw [e]; decide)), pt_ne (fun e => hk (by rw [e]; decide)), pt_ne (fun e => hk (by rw [e]; decide)), pt_ne (fun e => hk (by rw [e]; decide))]
  · show upd (upd (upd (upd (upd (ν 31) 3 _) 4 _) 6 _) 5 _) 7 _ q = _
    rw [upd_ne (fun e => hq (by rw [e]; decide)), upd_ne (fun e => hq (by rw [e]; decide)), upd_ne (fun e => hq (by rw [e]; decide)), upd_ne (fun e => hq (by rw [e]; decide)), upd_ne (fun e => hq (by rw [e]; decide))]
theorem q_game {N n : Nat} {σ μ : St} (hN : 5000 ≤ N) (h : RelE n σ μ) : Ok2 n (D_X11_game N σ) (D_X12_game N μ) := by
  have h0 := h
  obtain ⟨C0, P0, J0, R0, gr, hn, ⟨np, pg, p1, p2, p3, p4⟩, hG, hNow, hI, hT⟩ := h
  obtain ⟨k, ν, a1, a2, a3, a4, a5, a6⟩ := fault_both (N := N) p1 p2 p3 p4 hN
  have hpX : ∀ j, j < np → σ 2 j = nI (pg j) ∧ 1 ≤ pg j ∧ pg j ≤ 126 := fun j hj => ⟨(p4 j hj).1, (p4 j hj).2.2⟩
  have hpM : ∀ j, j < np → ν 32 j = nI (pg j) ∧ 1 ≤ pg j ∧ pg j ≤ 126 := fun j hj => ⟨by rw [a4.1 32 (by decide)]; exact (p4 j hj).2.1, (p4 j hj).2.2⟩
  have m1 : ν 31 1 = nI np := by rw [a4.2 1 (by decide)]; exact p3
  have hX := isGameX (N := N) hpX p1 p2 hN a1 a2
  have st : ∀ b : Int32, b = 0 → D_X3_isGame N σ = some b → D_X11_game N σ = some (-103, σ) := fun b hb hq => by
    unfold D_X11_game
    rw [hq, bp_s, if_pos hb]
  by_cases c1 : k < np
  · have e2 : D_X12_game N μ = some (-103, ν) := by
      unfold D_X12_game
      rw [a3, bs_s, m1, if_pos (nI_lt c1 (by omega))]
    rw [st _ (if_neg (fun q => by omega)) hX, e2]
    exact Ok2.moved h0 Kp.rfl a4
  · obtain rfl : k = np := by omega
    have m2 := a6 rfl
    by_cases c2 : ke pg k = 0
    · have e2 : D_X12_game N μ = some (-103, ν) := by
        unfold D_X12_game
        rw [a3, bs_s, m1, if_neg (nI_nlt (Nat.le_refl _) (by omega)), m2, c2, if_pos (show nI 0 = (0 : Int32) from rfl)]
      rw [st _ (if_neg (fun q => q.1 c2)) hX, e2]
      exact Ok2.moved h0 Kp.rfl a4
    · obtain ⟨v1, v2, -⟩ := ke_val c2
      have q0 := ms0 (a5 0 (by omega))
      have eX : (nI (ke pg k) + (1 : Int32)) + (nI (pg 0) - (48 : Int32)) = nI (ke pg k + 1 + (pg 0 - 48)) := by
        rw [nI_1, show (48 : Int32) = nI 48 from rfl, pk_sub (by omega), nI_add]
      by_cases c3 : k = ke pg k + 1 + (pg 0 - 48)
      · have hg := pgG_of p1 a5 c2 c3
        have hg1 : D_X3_isGame N σ = some 1 := by
          rw [hX, if_pos ⟨c2, by rw [eX]; exact congrArg nI c3, rfl⟩]
        obtain ⟨s, x1, x2, x3, x4, x5, x6⟩ := gameX (N := N) hg hpX p2 hN hg1
        obtain ⟨u, y1, y2, y3, y4, y5, y6, y7, y8, y9⟩ := gameM (N := N) hg hpM m1 m2 hN a3
        obtain ⟨b1, b2, b3, b4, b5, b6, b7, b8, b9, d0, d1, d2, d3⟩ := hg
        have hh := hv_lt (C := pg 1 - 48) (pg := pg) (e := ke pg k) (by omega) (k := pg 0 - 48) (fun i hi => (d3 i hi).2)
        have lp := pow_le (C := pg 1 - 48) (P := pg 0 - 48) b7 b9
        obtain ⟨bd, ld, pd, tr, t1, t2, t3, t4, t5, t6, t7, t8, t9, t10, t11, t12, t13, t14⟩ := hT
        rw [x1, y1]
        have hgp : 0 < (pg 1 - 48) ^ (pg 0 - 48) := Nat.lt_of_le_of_lt (Nat.zero_le _) hh
        refine ⟨_, _, _, rfl, rfl, pg 1 - 48, pg 0 - 48, ke pg k - 3, (pg 1 - 48) ^ (pg 0 - 48), gr + 1, by omega, ⟨0, pg, by omega, rfl, rfl, fun j hj => absurd hj (Nat.not_lt_zero j)⟩, ⟨Or.inr ⟨b6, b7, b8, b9, by omega, by omega, rfl⟩, x2.1, x2.2.1, x2.2.2.1, x4, y3, y4, y5, y6, fun _ => x2⟩, ⟨hv (pg 1 - 48) pg (ke pg k) (pg 0 - 48), 0, fun j => kn (pg (3 + j)), fun _ => 0, fun _ => 0, fun _ => 0, ⟨by omega, fun _ => hh, rfl, rfl, fun j hj => ⟨d2 j hj, x6 j hj, y9 j hj⟩, fun i hi => absurd hi (Nat.not_lt_zero i)⟩, rfl, fun q => by omega, fun _ => y7⟩, Or.inl ⟨rfl, ?_⟩, ⟨bd, ld, pd, tr, t1, t2, t3, ?_, ?_, ?_, ?_, ?_, ?_, ?_, ?_, ?_, t13, ?_⟩⟩
        · show u 31 21 = -1 ∨ ∃ kg, kg < gr + 1 ∧ u 31 21 = nI kg
          rw [y8 21 (by decide), a4.2 21 (by decide)]
          rcases hI with ⟨-, q | ⟨kg, q1, q2⟩⟩ | ⟨-, -, q, -⟩
          · exact Or.inl q
          · exact Or.inr ⟨kg, by omega, q2⟩
          · exact Or.inr ⟨gr, by omega, q⟩
        · show σ 0 11 + 1 = nI (gr + 1)
          rw [t4, nI_1]
        · show ν 31 9 + 1 = nI (gr + 1)
          rw [a4.2 9 (by decide), t5, nI_1]
        · show s 0 12 = nI bd
          rw [x5 12 (by decide)]; exact t6
        · show u 31 15 = nI bd
          rw [y8 15 (by decide), a4.2 15 (by decide)]; exact t7
        · show s 0 13 = nI ld
          rw [x5 13 (by decide)]; exact t8
        · show u 31 16 = nI ld
          rw [y8 16 (by decide), a4.2 16 (by decide)]; exact t9
        · show s 0 14 = nI pd
          rw [x5 14 (by decide)]; exact t10
        · show u 31 17 = nI pd
          rw [y8 17 (by decide), a4.2 17 (by decide)]; exact t11
        · show s 28 2 = nI tr
          rw [x3 28 (by decide)]; exact t12
        · intro i hi
          show ∃ mk, mk ≤ tr ∧ s 29 i = nI mk
          rw [x3 29 (by decide)]; exact t14 i hi
      · have e2 : D_X12_game N μ = some (-103, ν) := by
          unfold D_X12_game
          rw [a3, bs_s, m1, if_neg (nI_nlt (Nat.le_refl _) (by omega)), m2, if_neg (nI_ne0 (by omega) (by omega)), show (0 : Int32) = nI 0 from rfl, gi_nI (i := 0) (by omega) (by omega), nI_clamp (by omega), (hpM 0 (by omega)).1, show (48 : Int32) = nI 48 from rfl, pk_sub (show ke pg k ≤ k by omega), show (1 : Int32) = nI 1 from rfl, pk_sub (show 1 ≤ k - ke pg k by omega), pk_sub (show 48 ≤ pg 0 by omega), if_neg (by rw [nI_eq (by omega) (by omega)]; omega)]
        rw [st _ (if_neg (fun q => c3 ((nI_eq (by omega) (by omega)).mp (by rw [eX] at q; exact q.2.1)))) hX, e2]
        exact Ok2.moved h0 Kp.rfl a4
