/-! fault, on both sides -/
theorem ms0 {pg : Nat → Nat} (h : ms pg 0 = true) : 49 ≤ pg 0 ∧ pg 0 ≤ 51 := by
  unfold ms at h
  rw [if_pos rfl] at h
  exact of_decide_eq_true h
theorem ms1 {pg : Nat → Nat} (h : ms pg 1 = true) : 50 ≤ pg 1 ∧ pg 1 ≤ 54 := by
  unfold ms at h
  rw [if_neg (by decide), if_pos rfl] at h
  exact of_decide_eq_true h
theorem isGoodM {np : Nat} {pg : Nat → Nat} {s : St} (hp : ∀ j, j < np → s 32 j = nI (pg j) ∧ 1 ≤ pg j ∧ pg j ≤ 126) (hnp : np ≤ 12) {i : Nat} (hi : i < np) (hs : ∀ k, k < i → ms pg k = true) (h2 : s 31 2 = nI (ke pg i)) :
    ∃ s', D_X12_isGood s (nI i) = some (bI (ms pg i), s') ∧ KpM s s' ∧ (ms pg i = true → s' 31 2 = nI (ke pg (i + 1))) := by
  obtain ⟨p1, p2, p3⟩ := hp i hi
  unfold D_X12_isGood
  rw [gi_nI (by omega) (by omega), nI_clamp (by omega), p1]
  by_cases c0 : i = 0
  · subst c0
    rw [if_pos (show nI 0 = (0 : Int32) from rfl), btw_M (lo := 49) (hi := 51) (by omega) (by omega) (by omega) rfl rfl, bp_s, gb_bI]
    refine ⟨s, ?_, KpM.rfl, fun _ => by rw [h2, ke_3 (by omega), ke_3 (by omega)]⟩
    unfold ms
    rw [if_pos rfl]
  · rw [if_neg (nI_ne0 (by omega) (by omega))]
    by_cases c1 : i = 1
    · subst c1
      rw [if_pos (show nI 1 = (1 : Int32) from rfl), btw_M (lo := 50) (hi := 54) (by omega) (by omega) (by omega) rfl rfl, bp_s, gb_bI]
      refine ⟨s, ?_, KpM.rfl, fun _ => by rw [h2, ke_3 (by omega), ke_3 (by omega)]⟩
      unfold ms
      rw [if_neg c0, if_pos rfl]
    · rw [if_neg (show ¬ nI i = (1 : Int32) from fun q => c1 ((nI_eq (b := 1) (by omega) (by omega)).mp q))]
      by_cases c2 : i = 2
      · subst c2
        rw [if_pos (show nI 2 = (2 : Int32) from rfl)]
        refine ⟨s, ?_, KpM.rfl, fun _ => by rw [h2, ke_3 (by omega), ke_3 (by omega)]⟩
        unfold ms
        rw [if_neg c0, if_neg c1, if_pos rfl]
        by_cases e : pg 2 = 59
        · rw [if_pos (show nI (pg 2) = (59 : Int32) by rw [e]; rfl), decide_eq_true e]; rfl
        · rw [if_neg (show ¬ nI (pg 2) = (59 : Int32) from fun q => e ((nI_eq (b := 59) (by omega) (by omega)).mp q)), decide_eq_false e]; rfl
      · rw [if_neg (show ¬ nI i = (2 : Int32) from fun q => c2 ((nI_eq (b := 2) (by omega) (by omega)).mp q)), h2]
        have q0 := ms0 (hs 0 (by omega))
        have q1 := ms1 (hs 1 (by omega))
        have hms : ms pg i = if ke pg i = 0 then (if pg i = 59 then decide (3 < i) else decide (i < 6 ∧ kn (pg i) < 5)) else decide (i ≤ ke pg i + (pg 0 - 48) ∧ 97 ≤ pg i ∧ pg i < 97 + (pg 1 - 48)) := by
          rw [ms, if_neg c0, if_neg c1, if_neg c2]
        rw [hms]
        by_cases k0 : ke pg i = 0
        · rw [k0, if_pos (show nI 0 = (0 : Int32) from rfl), if_pos rfl]
          unfold D_X12_isJudgeLetter J_X12_isJudgeLetter_25
          rw [gi_nI (by omega) (by omega), nI_clamp (by omega), p1, kindByM _ (by omega), bp_s]
          by_cases e : pg i = 59
          · rw [if_pos (show nI (pg i) = (59 : Int32) by rw [e]; rfl), if_pos e]
            by_cases c : 3 < i
            · rw [if_neg (show ¬ nI i ≤ (3 : Int32) from nI_ge (a := 3) (b := i) (by omega) (by omega)), decide_eq_true c, bs_s, gb_1]
              refine ⟨_, rfl, ⟨fun k hk => pt_ne (fun e => hk (by rw [e]; decide)), fun j hj => ?_⟩, fun _ => ?_⟩
              · show upd (s 31) 2 _ j = _
                exact upd_ne (fun e => hj (by rw [e]; decide))
              · rw [ke, if_pos k0, if_pos ⟨by omega, e⟩]; rfl
            · rw [if_pos (show nI i ≤ (3 : Int32) from nI_le (b := 3) (by omega) (by omega)), decide_eq_false c, e, if_pos (show knI 59 = -1 by decide), bs_s, gb_0]
              exact ⟨s, rfl, KpM.rfl, fun q => absurd q (by decide)⟩
          · have kk : ke pg (i + 1) = 0 := by rw [ke, if_pos k0, if_neg (fun q => e q.2)]
            rw [if_neg (show ¬ nI (pg i) = (59 : Int32) from fun q => e ((nI_eq (b := 59) (by omega) (by omega)).mp q)), if_neg e]
            by_cases kq : kn (pg i) < 5
            · rw [if_neg (fun q => knI_m1.mp q kq)]
              by_cases c : i < 6
              · rw [if_neg (show ¬ (6 : Int32) ≤ nI i from nI_ge (b := 6) (by omega) (by omega)), decide_eq_true ⟨c, kq⟩, bs_s, gb_1]
                exact ⟨s, rfl, KpM.rfl, fun _ => by rw [h2, k0, kk]⟩
              · rw [if_pos (show (6 : Int32) ≤ nI i from nI_le (a := 6) (by omega) (by omega)), decide_eq_false (fun q => c q.1), bs_s, gb_0]
                exact ⟨s, rfl, KpM.rfl, fun q => absurd q (by decide)⟩
            · rw [if_pos (knI_m1.mpr kq), decide_eq_false (fun q => kq q.2), bs_s, gb_0]
              exact ⟨s, rfl, KpM.rfl, fun q => absurd q (by decide)⟩
        · obtain ⟨v1, v2, -⟩ := ke_val k0
          have kk : ke pg (i + 1) = ke pg i := ke_stay k0 (by omega)
          rw [if_neg (nI_ne0 (by omega) (by omega)), if_neg k0, show (0 : Int32) = nI 0 from rfl, show (1 : Int32) = nI 1 from rfl, gi_nI (i := 0) (by omega) (by omega), gi_nI (i := 1) (by omega) (by omega), nI_clamp (by omega), nI_clamp (by omega), (hp 0 (by omega)).1, (hp 1 (by omega)).1, show (48 : Int32) = nI 48 from rfl, show (97 : Int32) = nI 97 from rfl, show (49 : Int32) = nI 49 from rfl, pk_sub (show ke pg i ≤ i by omega), nI_add, pk_sub (show 48 ≤ pg 0 by omega), pk_sub (show 49 ≤ 97 + pg 1 by omega)]
          by_cases a1 : pg 0 - 48 < i - ke pg i
          · rw [if_pos (nI_lt a1 (by omega)), decide_eq_false (by omega)]
            exact ⟨s, rfl, KpM.rfl, fun q => absurd q (by decide)⟩
          · rw [if_neg (nI_nlt (by omega) (by omega)), btw_M (lo := 97) (hi := 97 + pg 1 - 49) (by omega) (by omega) (by omega) rfl (by rw [Int32.toInt_toInt64, nI_toInt (by omega)]), bp_s]
            by_cases a2 : 97 ≤ pg i ∧ pg i ≤ 97 + pg 1 - 49
            · rw [decide_eq_true a2, if_neg (show ¬ bI true = nI 0 by decide), decide_eq_true (show i ≤ ke pg i + (pg 0 - 48) ∧ 97 ≤ pg i ∧ pg i < 97 + (pg 1 - 48) by omega)]
              exact ⟨s, rfl, KpM.rfl, fun _ => by rw [h2, kk]⟩
            · rw [decide_eq_false a2, if_pos (show bI false = nI 0 from rfl), decide_eq_false (show ¬ (i ≤ ke pg i + (pg 0 - 48) ∧ 97 ≤ pg i ∧ pg i < 97 + (pg 1 - 48)) by omega)]
              exact ⟨s, rfl, KpM.rfl, fun q => absurd q (by decide)⟩
theorem fault_both {N np : Nat} {pg : Nat → Nat} {σ μ : St} (hnp : np ≤ 12) (h1 : σ 1 1 = nI np) (h2 : μ 31 1 = nI np) (hp : ∀ j, j < np → σ 2 j = nI (pg j) ∧ μ 32 j = nI (pg j) ∧ 1 ≤ pg j ∧ pg j ≤ 126) (hN : 5000 ≤ N) :
    ∃ k ν, k ≤ np ∧ D_X3_firstFault N σ = some (nI k) ∧ D_X12_faultOf N μ = some (nI k, ν) ∧ KpM μ ν ∧ (∀ i, i < k → ms pg i = true) ∧ (k = np → ν 31 2 = nI (ke pg np)) := by
  have hpX : ∀ j, j < np → σ 2 j = nI (pg j) ∧ 1 ≤ pg j ∧ pg j ≤ 126 := fun j hj => ⟨(hp j hj).1, (hp j hj).2.2⟩
  have key : ∀ (d i n1 n2 : Nat) (s : St), i + d = np → d < n1 → d < n2 → (∀ k, k < i → ms pg k = true) → KpM μ s → s 31 2 = nI (ke pg i) → ∃ k ν, k ≤ np ∧ L_X3_firstFault_2 N σ n1 (nI i) = some (nI k) ∧ L_X12_faultOf_7 N n2 (nI i) s = some (nI k, ν) ∧ KpM μ ν ∧ (∀ i, i < k → ms pg i = true) ∧ (k = np → ν 31 2 = nI (ke pg np)) := by
    intro d
    induction d with
    | zero =>
      intro i n1 n2 s hi q1 q2 hs hM h31
      obtain ⟨n1, rfl⟩ : ∃ q, n1 = q + 1 := ⟨n1 - 1, by omega⟩
      obtain ⟨n2, rfl⟩ : ∃ q, n2 = q + 1 := ⟨n2 - 1, by omega⟩
      obtain rfl : i = np := by omega
      rw [L_X3_firstFault_2, L_X12_faultOf_7, h1, hM.2 1 (by decide), h2, if_pos (show nI i ≤ nI i by rw [nI_leI (by omega) (by omega)]; omega), if_pos (show nI i ≤ nI i by rw [nI_leI (by omega) (by omega)]; omega)]
      exact ⟨i, s, Nat.le_refl _, rfl, rfl, hM, hs, fun _ => h31⟩
    | succ d ih =>
      intro i n1 n2 s hi q1 q2 hs hM h31
      obtain ⟨n1, rfl⟩ : ∃ q, n1 = q + 1 := ⟨n1 - 1, by omega⟩
      obtain ⟨n2, rfl⟩ : ∃ q, n2 = q + 1 := ⟨n2 - 1, by omega⟩
      obtain ⟨s', g1, g2, g3⟩ := isGoodM (pg := pg) (s := s) (np := np) (fun j hj => ⟨by rw [hM.1 32 (by decide)]; exact (hp j hj).2.1, (hp j hj).2.2⟩) hnp (show i < np by omega) hs h31
      rw [L_X3_firstFault_2, L_X12_faultOf_7, h1, hM.2 1 (by decide), h2, if_neg (show ¬ nI np ≤ nI i by rw [nI_leI (by omega) (by omega)]; omega), if_neg (show ¬ nI np ≤ nI i by rw [nI_leI (by omega) (by omega)]; omega), mayStandX hpX hnp hN (show i < np by omega) hs, bp_s, g1, bs_s, nI_1 i]
      cases hb : ms pg i with
      | false =>
        rw [if_pos (show bI false = 0 from rfl), if_pos (show bI false = 0 from rfl)]
        exact ⟨i, s', by omega, rfl, rfl, hM.trans g2, hs, fun q => by omega⟩
      | true =>
        rw [if_neg (show ¬ bI true = 0 by decide), if_neg (show ¬ bI true = 0 by decide)]
        refine ih (i + 1) n1 n2 s' (by omega) (by omega) (by omega) (fun k hk => ?_) (hM.trans g2) (g3 hb)
        by_cases e : k = i
        · subst e; exact hb
        · exact hs k (by omega)
  have hz : KpM μ (pt μ 31 2 0) := ⟨fun k hk => pt_ne (fun e => hk (by rw [e]; decide)), fun j hj => by
    show upd (μ 31) 2 _ j = _
    exact upd_ne (fun e => hj (by rw [e]; decide))⟩
  exact key np 0 N N (pt μ 31 2 0) (by omega) (by omega) (by omega) (fun k hk => absurd hk (Nat.not_lt_zero k)) hz rfl
theorem q_fault {N n : Nat} {σ μ : St} (hN : 5000 ≤ N) (h : RelE n σ μ) : Ok2 n (pu σ (D_X11_fault N σ)) (D_X12_fault N μ) := by
  have h0 := h
  obtain ⟨C, P, J, R, gr, hn, ⟨np, pg, p1, p2, p3, p4⟩, hG, hNow, hI, hT⟩ := h
  obtain ⟨k, ν, a1, a2, a3, a4, -⟩ := fault_both (N := N) p1 p2 p3 p4 hN
  unfold D_X11_fault D_X12_fault
  rw [a2, a3, bp_s, bs_s]
  exact ⟨_, σ, ν, rfl, rfl, (h0.move Kp.rfl a4).up⟩
