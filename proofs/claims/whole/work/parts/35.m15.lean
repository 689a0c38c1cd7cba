/-! tries -/
theorem play_both {N C P J R kd h : Nat} {σ0 μ0 : St} (hN : 5000 ≤ N) (hk : kd < 5) (hh : h < R) (hR0 : 0 < R) :
    ∀ (m : Nat) (f : Nat → Bool) (σ μ : St) (many n1 n2 : Nat) (a : Int32), cntb f R ≤ m → f h = true → many + cntb f R ≤ R + 1 → 1 ≤ many → RGm C P J R σ μ → PoolX R f σ → FitM R f μ → σ 30 4 = μ 31 20 → a ≠ nI h → m < n1 → m + 1 < n2 → Kp [24, 25, 26, 30] σ0 σ → KpM μ0 μ → σ 30 2 = σ0 30 2 → σ 30 3 = σ0 30 3 →
      ∃ (k : Nat) (τ ν : St), k ≤ R ∧ L_X9_playOne_21 N kd (nI h) n1 (nI many) σ = some (nI k, τ) ∧ L_X12_tryOne_37 N (nI kd) (nI h) n2 (nI (many - 1)) a μ = some (nI k, ν) ∧ τ 30 4 = ν 31 20 ∧ Kp [24, 25, 26, 30] σ0 τ ∧ KpM μ0 ν ∧ τ 30 2 = σ0 30 2 ∧ τ 30 3 = σ0 30 3 := by
  intro m
  induction m with
  | zero =>
    intro f σ μ many n1 n2 a hm hf
    have := cntb_lt hh hf
    omega
  | succ m ih =>
    intro f σ μ many n1 n2 a hm hf hb h1 hG hPl hF hs ha hn1 hn2 hK hM k2 k3
    have l := hG.1.le
    obtain ⟨o1, o2, o3, o4, o5, o6, o7⟩ := hG.1.on hR0
    obtain ⟨n1, rfl⟩ : ∃ q, n1 = q + 1 := ⟨n1 - 1, by omega⟩
    obtain ⟨n2, rfl⟩ : ∃ q, n2 = q + 1 := ⟨n2 - 1, by omega⟩
    have cp : 0 < cntb f R := by have := cntb_lt hh hf; omega
    have cl : cntb f R ≤ R := cntb_le _ _
    have dl := dr_lt (s := σ 30 4) cp
    have e20 : μ 31 20 = σ 30 4 := hs.symm
    -- the class draws
    have hPl2 : PoolX R f (pt σ 30 4 (nxt (σ 30 4))) := hPl
    have hKM2 : KpM μ (pt μ 31 20 (nxt (μ 31 20))) := ⟨fun k hk => pt_ne (fun e => hk (by rw [e]; decide)), fun j hj => by
      show upd (μ 31) 20 _ j = _
      exact upd_ne (fun e => hj (by rw [e]; decide))⟩
    have hG2 : RGm C P J R (pt σ 30 4 (nxt (σ 30 4))) (pt μ 31 20 (nxt (μ 31 20))) := hG
    have hF2 : FitM R f (pt μ 31 20 (nxt (μ 31 20))) := hF
    obtain ⟨r, r1, r2, r3, r4⟩ := soManM (N := N) (by omega) hF2 hN dl
    have hT2 := hG2.2.2.2.2.2.2.2.2.2 hR0
    obtain ⟨w1, w2, w3⟩ := tell_both (N := N) hG2 hN r1 hh hk
    obtain ⟨ν, v1, v2, v3, v4⟩ := filtM_try (N := N) hG2 hk r1 (show tl C P kd r h < 1000 by omega) hN hF2 (L_X12_tryOne_37 N (nI kd) (nI h) n2) (nI h) (nI many)
    have e25 : (pt σ 30 4 (nxt (σ 30 4))) 25 (dr (σ 30 4) (cntb f R)) = nI r := by rw [← r3]; exact hPl.2.1 r r1 r2
    rw [L_X9_playOne_21, hG.2.2.2.1, if_neg (nI_nlt (by omega) (by omega)), hPl.1, drawX σ cp (by omega), bs_s, gi_nI (by omega) (by omega), nI_clamp (by omega), e25]
    rw [L_X12_tryOne_37, if_neg ha, fitManyM hG.2.2.2.2.2.2.2.1 (by omega) hF hN, bp_s, drawM μ cp (by omega), bs_s, show dr (μ 31 20) (cntb f R) = dr (σ 30 4) (cntb f R) by rw [e20]]
    rw [r4, bp_s, w2, bp_s, nI_1 (many - 1), show many - 1 + 1 = many by omega, v4]
    have hKx : Kp [24, 25, 26, 30] σ0 (pt σ 30 4 (nxt (σ 30 4))) := fun k hk => by
      rw [pt_ne (fun e => hk (by rw [e]; decide))]; exact hK k hk
    by_cases e : r = h
    · subst e
      rw [if_pos rfl]
      obtain ⟨n2, rfl⟩ : ∃ q, n2 = q + 1 := ⟨n2 - 1, by omega⟩
      rw [L_X12_tryOne_37, if_pos rfl]
      refine ⟨many, _, ν, by omega, rfl, rfl, ?_, hKx, hM.trans (hKM2.trans v2), k2, k3⟩
      show nxt (σ 30 4) = ν 31 20
      rw [v3]
      show nxt (σ 30 4) = nxt (μ 31 20)
      rw [e20]
    · rw [if_neg (by rw [nI_eq (by omega) (by omega)]; exact e), w1, bp_s]
      obtain ⟨τ, x1, x2, x3⟩ := keepX (N := N) (told := tl C P kd r h) hT2 o2 o3 o4 o7 hk r1 (by omega) (by omega) hPl2
      obtain ⟨τ2, y1, y2, y3⟩ := dropX (N := N) (by omega) r1 (by omega) x2
      rw [x1, bp_s, y1, bp_s, nI_1]
      have hx := x3.trans y3
      have hsub : cntb (fun q => (f q && (tl C P kd r q == tl C P kd r h)) && !(q == r)) R < cntb f R := by
        have g1 : cntb (fun q => (f q && (tl C P kd r q == tl C P kd r h)) && !(q == r)) R ≤ cntb (fun q => f q && !(q == r)) R := by
          have : (fun q => (f q && (tl C P kd r q == tl C P kd r h)) && !(q == r)) = (fun q => (f q && !(q == r)) && (tl C P kd r q == tl C P kd r h)) := by
            funext q
            cases f q <;> cases (tl C P kd r q == tl C P kd r h) <;> cases (q == r) <;> rfl
          rw [this]
          exact cntb_sub
        have g2 : ∀ n, r < n → cntb (fun q => f q && !(q == r)) n < cntb f n := by
          intro n
          induction n with
          | zero => intro q; omega
          | succ n inn =>
            intro q
            rw [cntb, cntb]
            by_cases er : r = n
            · subst er
              have : cntb (fun q => f q && !(q == r)) r ≤ cntb f r := cntb_sub
              rw [r2, beq_self_eq_true]
              simp
              omega
            · have := inn (by omega)
              cases f n <;> cases (n == r) <;> simp <;> omega
        have := g2 R r1
        omega
      have hf2 : ((f h && (tl C P kd r h == tl C P kd r h)) && !(h == r)) = true := by
        rw [hf, beq_self_eq_true, beq_eq_false_iff_ne.mpr (fun q => e q.symm)]
        rfl
      have hG3 : RGm C P J R τ2 ν := (hG2.move (ν := pt μ 31 20 (nxt (μ 31 20))) (kp3 hx) KpM.rfl).move Kp.rfl v2
      have h30 : ∀ q, τ2 30 q = (pt σ 30 4 (nxt (σ 30 4))) 30 q := fun q => by rw [hx 30 (by decide)]
      have := ih (fun q => (f q && (tl C P kd r q == tl C P kd r h)) && !(q == r)) τ2 ν (many + 1) n1 n2 (nI r) (by omega) hf2 (by omega) (by omega) hG3 y2 v1 (by
        rw [h30, v3]
        show nxt (σ 30 4) = nxt (μ 31 20)
        rw [e20]) (by intro q; exact e ((nI_eq (by omega) (by omega)).mp q)) (by omega) (by omega) (hKx.trans (hx.mono (by decide))) (hM.trans (hKM2.trans v2)) (by rw [h30]; exact k2) (by rw [h30]; exact k3)
      rw [Nat.add_sub_cancel] at this
      exact this
theorem one_both {N C P J R kd : Nat} {σ μ : St} (hN : 5000 ≤ N) (hk : kd < 5) (hG : RGm C P J R σ μ) (hR0 : 0 < R) (hs : σ 30 4 = μ 31 20) :
    ∃ (k : Nat) (τ ν : St), k ≤ R ∧ D_X9_playOne N σ kd = some (nI k, τ) ∧ D_X12_tryOne N μ (nI kd) = some (nI k, ν) ∧ τ 30 4 = ν 31 20 ∧ Kp [24, 25, 26, 30] σ τ ∧ KpM μ ν ∧ τ 30 2 = σ 30 2 ∧ τ 30 3 = σ 30 3 := by
  have l := hG.1.le
  have e20 : μ 31 20 = σ 30 4 := hs.symm
  have hh := dr_lt (s := σ 30 4) hR0
  have hKM2 : KpM μ (pt μ 31 20 (nxt (μ 31 20))) := ⟨fun k hk => pt_ne (fun e => hk (by rw [e]; decide)), fun j hj => by
    show upd (μ 31) 20 _ j = _
    exact upd_ne (fun e => hj (by rw [e]; decide))⟩
  have hG2 : RGm C P J R (pt σ 30 4 (nxt (σ 30 4))) (pt μ 31 20 (nxt (μ 31 20))) := hG
  obtain ⟨τ, a1, a2, a3⟩ := fillX (N := N) hG2.2.2.2.1 (by omega) (by omega)
  have hKs : Kp [24, 25, 26, 30] σ τ := fun k hk => by
    rw [a3 k (fun q => hk (by simp at q ⊢; omega)), pt_ne (fun e => hk (by rw [e]; decide))]
  unfold D_X9_playOne D_X12_tryOne
  rw [hG.2.2.2.1, drawX σ hR0 (by omega), bs_s, a1, bp_s, hG.2.2.2.2.2.2.2.1, drawM μ hR0 (by omega), bs_s, e20]
  rw [e20] at hKM2 hG2
  have call : R = cntb (fun _ => true) R := (cntb_all R).symm
  refine loopQ (S := St) (fun n i s => L_X12_tryOne_11 N (nI kd) (nI (dr (σ 30 4) R)) n (nI i) s) R (fun i s => KpM μ s ∧ s 31 20 = nxt (σ 30 4) ∧ ∀ r, r < i → s 35 r = 1) (fun o => ∃ (k : Nat) (τ' ν : St), k ≤ R ∧ L_X9_playOne_21 N kd (nI (dr (σ 30 4) R)) N 1 τ = some (nI k, τ') ∧ o = some (nI k, ν) ∧ τ' 30 4 = ν 31 20 ∧ Kp [24, 25, 26, 30] σ τ' ∧ KpM μ ν ∧ τ' 30 2 = σ 30 2 ∧ τ' 30 3 = σ 30 3) ?_ ?_ N 0 _ (Nat.zero_le _) (by omega) ⟨hKM2, rfl, fun r hr => absurd hr (Nat.not_lt_zero r)⟩
  · intro n s ⟨i1, i2, i3⟩
    have hG3 : RGm C P J R τ s := hG.move (hKs.mono (by decide)) i1
    have h30 : ∀ q, τ 30 q = (pt σ 30 4 (nxt (σ 30 4))) 30 q := fun q => by rw [a3 30 (by decide)]
    show ∃ (k : Nat) (τ' ν : St), _ ∧ _ ∧ L_X12_tryOne_11 N (nI kd) (nI (dr (σ 30 4) R)) (n + 1) (nI R) s = _ ∧ _
    rw [L_X12_tryOne_11, hG3.2.2.2.2.2.2.2.1, if_pos (by rw [nI_leI (by omega) (by omega)]; omega)]
    exact play_both (σ0 := σ) (μ0 := μ) hN hk hh hR0 R (fun _ => true) τ s 1 N N (-1) (by omega) rfl (by omega) (Nat.le_refl _) hG3 a2 i3 (by rw [h30, i2]; rfl) (fun q => by
      have := nI_pos (n := dr (σ 30 4) R) (by omega)
      rw [← q] at this
      exact absurd this (by decide)) (by omega) (by omega) hKs i1 (by rw [h30]; rfl) (by rw [h30]; rfl)
  · intro n i s hi ⟨i1, i2, i3⟩ ih
    have hG3 : RGm C P J R σ s := hG.move Kp.rfl i1
    show ∃ (k : Nat) (τ' ν : St), _ ∧ _ ∧ L_X12_tryOne_11 N (nI kd) (nI (dr (σ 30 4) R)) (n + 1) (nI i) s = _ ∧ _
    rw [L_X12_tryOne_11, hG3.2.2.2.2.2.2.2.1, if_neg (by rw [nI_leI (by omega) (by omega)]; omega), gi_nI (by omega) (by omega), nI_clamp (by omega), nI_1]
    refine ih _ ⟨i1.pt (Or.inl rfl), i2, fun r hr => ?_⟩
    show upd (s 35) i 1 r = 1
    by_cases e : r = i
    · subst e; exact upd_at
    · rw [upd_ne e]; exact i3 r (by omega)
theorem q_tries {N n : Nat} {σ μ : St} (hN : 5000 ≤ N) (h : RelE n σ μ) (x y z w : Int32) : Ok2 n (D_X11_tries N σ x y z w) (D_X12_tries N μ x y z w) := by
  have h0 := h
  obtain ⟨C, P, J, R, gr, hn, hp, hG, ⟨hid, ns, kd, sr, sj, st, hNow⟩, hI, hT⟩ := h
  have l := hG.1.le
  unfold D_X11_tries D_X12_tries
  rw [isJudge_X hG, isJudge_M hG, bp_s, bp_s, in_eq, Int32.toInt_toInt64, show ((1 : Int64)).toInt = 1 from rfl, show ((20 : Int64)).toInt = 20 from rfl, bp_s, in_0l w (2 : Int64) (n := 3) rfl, bp_s]
  rcases tI_cases x (n := J) (by omega) with t | ⟨j, hj, rfl, t⟩
  · rw [t, if_pos rfl, if_pos rfl]
    exact Ok2.same h0
  · rw [t, if_neg (show ¬ (1 : Int32) = 0 by decide), if_neg (show ¬ (1 : Int32) = 0 by decide)]
    by_cases cy : 1 ≤ y.toInt ∧ y.toInt ≤ 20
    · have y1 : ¬ y < 1 := fun q => by
        have := Int32.lt_iff_toInt_lt.mp q
        rw [show ((1 : Int32)).toInt = 1 from rfl] at this; omega
      have y2 : ¬ (20 : Int32) < y := fun q => by
        have := Int32.lt_iff_toInt_lt.mp q
        rw [show ((20 : Int32)).toInt = 20 from rfl] at this; omega
      rw [if_neg y1, if_neg y2, if_pos cy, if_neg (show ¬ (1 : Int32) = 0 by decide)]
      by_cases cz : z < 0
      · rw [if_pos cz, if_pos cz]
        exact Ok2.same h0
      · rw [if_neg cz, if_neg cz]
        rcases tI_cases w (n := 3) (by omega) with t | ⟨v, hv, rfl, t⟩
        · rw [t, if_pos rfl]
          by_cases c1 : w < 0
          · rw [if_pos c1]; exact Ok2.same h0
          · rw [if_neg c1]
            by_cases c2 : w ≤ 2
            · obtain ⟨q, hq, rfl⟩ := nI_of c1
              rw [tI_nI (by have := (nI_leI (b := 2) hq (by omega)).mp c2; omega) (by omega)] at t
              exact absurd t (by decide)
            · rw [if_neg c2]; exact Ok2.same h0
        · have hR0 := hG.pos (by omega)
          obtain ⟨q1, q2, q3⟩ := hNow.1.2.2.2.2.1 j hj
          obtain ⟨tm, htm, rfl⟩ : ∃ tm : Nat, tm ≤ 20 ∧ y = nI tm := by
            have yp : ¬ y < 0 := fun q => by
              have := Int32.lt_iff_toInt_lt.mp q
              rw [Int32.toInt_zero] at this; omega
            obtain ⟨q, hq, rfl⟩ := nI_of yp
            rw [nI_toInt hq] at cy
            exact ⟨q, by omega, rfl⟩
          rw [t, if_neg (nI_pos (by omega)), if_pos (show nI v ≤ (2 : Int32) from nI_le (b := 2) (by omega) (by omega)), if_neg (show ¬ (1 : Int32) = 0 by decide), judgeAt_X hNow (by omega) hj, bp_s]
          unfold D_X9_play
          -- both loops side by side
          have key : ∀ (d i n1 n2 : Nat) (s u : St), i + d = tm → d < n1 → d < n2 → Kp [24, 25, 26, 30] σ s → KpM μ u → s 30 4 = u 31 20 → ∃ τ ν, L_X9_play_18 N (kd j) (nI tm) n1 (nI i) s = some τ ∧ L_X12_tries_57 N (nI j) (nI tm) (nI v) n2 (s 30 2) (s 30 3) (nI i) u = some ((if v = 0 then τ 30 2 else if v = 1 then τ 30 3 else τ 30 4), ν) ∧ Kp [24, 25, 26, 30] σ τ ∧ KpM μ ν := by
            intro d
            induction d with
            | zero =>
              intro i n1 n2 s u hi h1 h2 hK hM hsu
              obtain ⟨n1, rfl⟩ : ∃ q, n1 = q + 1 := ⟨n1 - 1, by omega⟩
              obtain ⟨n2, rfl⟩ : ∃ q, n2 = q + 1 := ⟨n2 - 1, by omega⟩
              refine ⟨s, u, ?_, ?_, hK, hM⟩
              · rw [L_X9_play_18, if_pos (by rw [nI_leI (by omega) (by omega)]; omega)]
              · rw [L_X12_tries_57, if_pos (by rw [nI_leI (by omega) (by omega)]; omega)]
                rcases (show v = 0 ∨ v = 1 ∨ v = 2 by omega) with rfl | rfl | rfl
                · rw [if_pos (show nI 0 = (0 : Int32) from rfl)]; rfl
                · rw [if_neg (show ¬ nI 1 = (0 : Int32) by decide), if_pos (show nI 1 = (1 : Int32) from rfl)]; rfl
                · rw [if_neg (show ¬ nI 2 = (0 : Int32) by decide), if_neg (show ¬ nI 2 = (1 : Int32) by decide), ← hsu]; rfl
            | succ d ihd =>
              intro i n1 n2 s u hi h1 h2 hK hM hsu
              obtain ⟨n1, rfl⟩ : ∃ q, n1 = q + 1 := ⟨n1 - 1, by omega⟩
              obtain ⟨n2, rfl⟩ : ∃ q, n2 = q + 1 := ⟨n2 - 1, by omega⟩
              have hG2 : RGm C P J R s u := hG.move (hK.mono (by decide)) hM
              have hN2 : Now J R hid ns kd sr sj st s u := hNow.move (hK.mono (by decide)) hM
              obtain ⟨k, τ, ν, c0, c1, c2, c3, c4, c5, c6, c7⟩ := one_both (N := N) hN q1 hG2 hR0 hsu
              rw [L_X9_play_18, if_neg (show ¬ nI tm ≤ nI i by rw [nI_leI (by omega) (by omega)]; omega), c1, bs_s, L_X12_tries_57, if_neg (show ¬ nI tm ≤ nI i by rw [nI_leI (by omega) (by omega)]; omega), gi_nI (by omega) (by omega), nI_clamp (by omega), (hN2.1.2.2.2.2.1 j hj).2.2, c2, bs_s, c6, c7, nI_1 i]
              have kk : ∀ s' : St, (∀ k, k ≠ 30 → s' k = τ k) → Kp [24, 25, 26, 30] σ s' := fun s' hs' q hq => by
                rw [hs' q (fun e => hq (by rw [e]; decide))]; exact (hK.trans c4) q hq
              by_cases e : 3 < k
              · rw [if_pos (show (3 : Int32) < nI k from nI_lt (a := 3) e (by omega)), if_pos (show (4 : Int32) ≤ nI k from nI_le (a := 4) (by omega) (by omega)), show s 30 3 + (0 : Int32) = s 30 3 from Int32.add_zero _]
                have := ihd (i + 1) n1 n2 (pt τ 30 2 (s 30 2 + nI k)) ν (by omega) (by omega) (by omega) (kk _ (fun q hq => pt_ne hq)) (hM.trans c5) c3
                have e3 : (pt τ 30 2 (s 30 2 + nI k)) 30 3 = s 30 3 := c7
                have e2 : (pt τ 30 2 (s 30 2 + nI k)) 30 2 = s 30 2 + nI k := rfl
                rw [e3, e2] at this
                exact this
              · rw [if_neg (show ¬ (3 : Int32) < nI k from nI_nlt (a := 3) (b := k) (by omega) (by omega)), if_neg (show ¬ (4 : Int32) ≤ nI k from nI_ge (b := 4) (by omega) (by omega))]
                have := ihd (i + 1) n1 n2 (pt (pt τ 30 2 (s 30 2 + nI k)) 30 3 (s 30 3 + 1)) ν (by omega) (by omega) (by omega) (kk _ (fun q hq => by rw [pt_ne hq, pt_ne hq])) (hM.trans c5) c3
                exact this
          have hz : KpM μ (pt μ 31 20 z) := ⟨fun k hk => pt_ne (fun e => hk (by rw [e]; decide)), fun q hq => by
            show upd (μ 31) 20 _ q = _
            exact upd_ne (fun e => hq (by rw [e]; decide))⟩
          obtain ⟨τ, ν, a1, a2, a3, a4⟩ := key tm 0 N N (pt (pt (pt σ 30 4 z) 30 2 0) 30 3 0) (pt μ 31 20 z) (by omega) (by omega) (by omega) (fun k hk => by
            rw [pt_ne (fun e => hk (by rw [e]; decide)), pt_ne (fun e => hk (by rw [e]; decide)), pt_ne (fun e => hk (by rw [e]; decide))]) hz rfl
          have a1' : L_X9_play_18 N (kd j) (nI tm) N 0 (pt (pt (pt σ 30 4 z) 30 2 0) 30 3 0) = some τ := a1
          have a2' : L_X12_tries_57 N (nI j) (nI tm) (nI v) N 0 0 0 (pt μ 31 20 z) = some ((if v = 0 then τ 30 2 else if v = 1 then τ 30 3 else τ 30 4), ν) := a2
          rw [a1', bp_s, a2']
          rcases (show v = 0 ∨ v = 1 ∨ v = 2 by omega) with rfl | rfl | rfl
          · rw [if_pos (show nI 0 = (0 : Int32) from rfl)]
            exact Ok2.moved h0 (a3.mono (by decide)) a4
          · rw [if_neg (show ¬ nI 1 = (0 : Int32) by decide), if_pos (show nI 1 = (1 : Int32) from rfl)]
            exact Ok2.moved h0 (a3.mono (by decide)) a4
          · rw [if_neg (show ¬ nI 2 = (0 : Int32) by decide), if_neg (show ¬ nI 2 = (1 : Int32) by decide)]
            exact Ok2.moved h0 (a3.mono (by decide)) a4
    · rw [if_neg cy, if_pos rfl]
      by_cases y1 : y < 1
      · rw [if_pos y1]; exact Ok2.same h0
      · rw [if_neg y1]
        have y2 : (20 : Int32) < y := Int32.lt_iff_toInt_lt.mpr (by
          have : ¬ y.toInt < 1 := fun q => y1 (Int32.lt_iff_toInt_lt.mpr q)
          rw [show ((20 : Int32)).toInt = 20 from rfl]; omega)
        rw [if_pos y2]; exact Ok2.same h0
