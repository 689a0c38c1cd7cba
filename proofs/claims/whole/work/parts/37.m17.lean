/-! judge: the test; the whole call -/
def ws (C P hid : Nat) (c : Nat → Bool) (a k : Nat) : Nat := if c k then cntb (fun o => c o && (tl C P o a hid == tl C P k a hid)) 5 else 0
def wst (C P hid : Nat) (c : Nat → Bool) (a : Nat) : Nat := mxb (ws C P hid c a) 5
theorem ws_le {C P hid : Nat} {c : Nat → Bool} {a k : Nat} : ws C P hid c a k ≤ 5 := by
  unfold ws
  split
  · exact cntb_le _ _
  · omega
theorem wst_le {C P hid : Nat} {c : Nat → Bool} {a : Nat} : wst C P hid c a ≤ 5 := mxb_le (fun _ _ => ws_le)
theorem mx_nI {a b : Nat} (ha : a < 2 ^ 31) (hb : b < 2 ^ 31) : (if nI a < nI b then nI b else nI a) = nI (max a b) := by
  by_cases h : a < b
  · rw [if_pos (nI_lt h hb), Nat.max_eq_right (by omega)]
  · rw [if_neg (nI_nlt (by omega) ha), Nat.max_eq_left (by omega)]
theorem wsortX {N C P J R hid ns : Nat} {kd sr sj st : Nat → Nat} {σ μ : St} (hG : RGm C P J R σ μ) (hNow : Now J R hid ns kd sr sj st σ μ) (hN : 5000 ≤ N) (hR : 0 < R) (c : Nat → Bool) {a : Nat} (ha : a < R) : ∃ τ, D_X11_worstSorts N σ (bf c 5) (nI a) = some (nI (wst C P hid c a), τ) ∧ Kp [9] σ τ := by
  have hh := hNow.1.2.1 hR
  have inner : ∀ (kc : Int32 → Int32 → St → Option (Int32 × St)) (s : St) (x k : Nat), k < 5 → x ≤ 5 → (∀ o, o < 5 → s 9 o = if c o then nI (tl C P o a hid) else -1) → L_X11_worstSorts_75 N kc (nI x) (nI k) N 0 0 s = kc (nI (max x (ws C P hid c a k))) (nI (k + 1)) s := by
    intro kc s x k hk hx hs
    have tk := (tell_both (N := N) hG hN ha hh hk).2.2
    cases hc : c k with
    | false =>
      obtain ⟨m, rfl⟩ : ∃ m, N = m + 1 := ⟨N - 1, by omega⟩
      unfold L_X11_worstSorts_75 J_X11_worstSorts_118
      rw [if_neg (show ¬ (5 : Int32) ≤ 0 by decide), gi_nI (by omega) (by omega), nI_clamp (by omega), hs k hk, hc, if_pos (show (if false = true then nI (tl C P k a hid) else (-1 : Int32)) = -1 from rfl), show (0 : Int32) = nI 0 from rfl, mx_nI (by omega) (by omega), nI_1 k]
      unfold ws
      rw [hc]
      rfl
    | true =>
      have hne : ∀ t : Nat, t < 1000 → ¬ nI t = (-1 : Int32) := fun t ht q => by
        have := nI_pos (n := t) (by omega)
        rw [q] at this
        exact absurd this (by decide)
      have e9 : s 9 k = nI (tl C P k a hid) := by rw [hs k hk, hc]; rfl
      refine loopQ (S := Nat) (fun n i q => L_X11_worstSorts_75 N kc (nI x) (nI k) n (nI q) (nI i) s) 5 (fun i q => q = cntb (fun o => c o && (tl C P o a hid == tl C P k a hid)) i) (fun o => o = kc (nI (max x (ws C P hid c a k))) (nI (k + 1)) s) ?_ ?_ N 0 0 (Nat.zero_le _) (by omega) rfl
      · intro n q hI
        have := cntb_le (fun o => c o && (tl C P o a hid == tl C P k a hid)) 5
        show L_X11_worstSorts_75 N kc (nI x) (nI k) (n + 1) (nI q) (nI 5) s = _
        unfold L_X11_worstSorts_75 J_X11_worstSorts_118
        rw [if_pos (show (5 : Int32) ≤ nI 5 by decide), hI, mx_nI (by omega) (by omega), nI_1 k]
        unfold ws
        rw [hc]
        rfl
      · intro n i q hi hI ih
        have ti := (tell_both (N := N) hG hN ha hh hi).2.2
        show L_X11_worstSorts_75 N kc (nI x) (nI k) (n + 1) (nI q) (nI i) s = _
        unfold L_X11_worstSorts_75 J_X11_worstSorts_118
        rw [if_neg (show ¬ (5 : Int32) ≤ nI i from nI_ge (b := 5) (by omega) (by omega)), gi_nI (by omega) (by omega), nI_clamp (by omega), e9, if_neg (hne _ (by omega)), gi_nI (by omega) (by omega), gi_nI (by omega) (by omega), nI_clamp (by omega), hs i hi, nI_1 i]
        cases hci : c i with
        | false =>
          rw [if_neg (show ¬ (if false = true then nI (tl C P i a hid) else (-1 : Int32)) = nI (tl C P k a hid) from fun q => hne _ (by omega) q.symm)]
          exact ih q (by rw [cntb, hci, hI]; rfl)
        | true =>
          rw [show (if true = true then nI (tl C P i a hid) else (-1 : Int32)) = nI (tl C P i a hid) from rfl]
          by_cases e : tl C P i a hid = tl C P k a hid
          · rw [if_pos (by rw [e]), nI_1 q]
            exact ih (q + 1) (by rw [cntb, hci, hI, e, beq_self_eq_true]; rfl)
          · rw [if_neg (by rw [nI_eq (by omega) (by omega)]; exact e)]
            exact ih q (by rw [cntb, hci, hI, beq_eq_false_iff_ne.mpr e]; rfl)
  have second : ∀ s : St, (∀ o, o < 5 → s 9 o = if c o then nI (tl C P o a hid) else -1) → L_X11_worstSorts_63 N N 0 0 s = some (nI (wst C P hid c a), s) := by
    intro s hs
    refine loopQ (S := Nat) (fun n i q => L_X11_worstSorts_63 N n (nI q) (nI i) s) 5 (fun i q => q = mxb (ws C P hid c a) i) (fun o => o = some (nI (wst C P hid c a), s)) ?_ ?_ N 0 0 (Nat.zero_le _) (by omega) rfl
    · intro n q hI
      show L_X11_worstSorts_63 N (n + 1) (nI q) (nI 5) s = _
      rw [L_X11_worstSorts_63, if_pos (show (5 : Int32) ≤ nI 5 by decide), hI]
      rfl
    · intro n i q hi hI ih
      show L_X11_worstSorts_63 N (n + 1) (nI q) (nI i) s = _
      have : q ≤ 5 := by rw [hI]; exact mxb_le (fun _ _ => ws_le)
      rw [L_X11_worstSorts_63, if_neg (show ¬ (5 : Int32) ≤ nI i from nI_ge (b := 5) (by omega) (by omega)), inner _ s q i hi this hs]
      exact ih _ (by rw [mxb, hI])
  unfold D_X11_worstSorts
  refine loopQ (S := St) (fun n i s => L_X11_worstSorts_5 N (bf c 5) (nI a) 0 n (nI i) s) 5 (fun i s => Kp [9] σ s ∧ ∀ o, o < i → s 9 o = if c o then nI (tl C P o a hid) else -1) (fun o => ∃ τ, o = some (nI (wst C P hid c a), τ) ∧ Kp [9] σ τ) ?_ ?_ N 0 σ (Nat.zero_le _) (by omega) ⟨Kp.rfl, fun o ho => absurd ho (Nat.not_lt_zero o)⟩
  · intro n s ⟨i1, i2⟩
    show ∃ τ, L_X11_worstSorts_5 N (bf c 5) (nI a) 0 (n + 1) (nI 5) s = _ ∧ _
    rw [L_X11_worstSorts_5, if_pos (show (5 : Int32) ≤ nI 5 by decide), second s i2]
    exact ⟨s, rfl, i1⟩
  · intro n i s hi ⟨i1, i2⟩ ih
    have hG2 : RGm C P J R s μ := hG.move (i1.mono (by decide)) KpM.rfl
    obtain ⟨w1, -, w3⟩ := tell_both (N := N) hG2 hN ha hh hi
    show ∃ τ, L_X11_worstSorts_5 N (bf c 5) (nI a) 0 (n + 1) (nI i) s = _ ∧ _
    rw [L_X11_worstSorts_5, if_neg (show ¬ (5 : Int32) ≤ nI i from nI_ge (b := 5) (by omega) (by omega)), bf_bit c hi, gi_nI (by omega) (by omega), nI_clamp (by omega), i1 10 (by decide), hNow.1.2.2.1, w1, bp_s, gi_nI (by omega) (by omega), gi_nI (by omega) (by omega), nI_1 i]
    have kk : ∀ v : Int32, Kp [9] σ (pt s 9 i v) := fun v k hk => by
      rw [pt_ne (fun e => hk (by rw [e]; decide))]; exact i1 k hk
    cases hc : c i with
    | false =>
      rw [if_neg (show ¬ bI false = 1 by decide)]
      refine ih _ ⟨kk _, fun o ho => ?_⟩
      show upd (s 9) i _ o = _
      by_cases e : o = i
      · subst e; rw [upd_at, hc]; rfl
      · rw [upd_ne e]; exact i2 o (by omega)
    | true =>
      rw [if_pos (show bI true = 1 from rfl)]
      refine ih _ ⟨kk _, fun o ho => ?_⟩
      show upd (s 9) i _ o = _
      by_cases e : o = i
      · subst e; rw [upd_at, hc]; rfl
      · rw [upd_ne e]; exact i2 o (by omega)
theorem wsortM {N C P J R hid ns : Nat} {kd sr sj st : Nat → Nat} {σ μ : St} (hG : RGm C P J R σ μ) (hNow : Now J R hid ns kd sr sj st σ μ) (hN : 5000 ≤ N) (hR : 0 < R) (c : Nat → Bool) {a : Nat} (ha : a < R) (kc : Int32 → Int32 → Int32 → Option Int32) (x3 x4 : Int32) :
    L_X12_testOf_34 N μ kc (bf c 5) x3 x4 (nI a) N 0 0 = if x4 ≤ nI (wst C P hid c a) then kc x3 x4 (nI (a + 1)) else kc (nI a) (nI (wst C P hid c a)) (nI (a + 1)) := by
  have hh := hNow.1.2.1 hR
  have inner : ∀ (kc34 : Int32 → Int32 → Option Int32) (x k : Nat), k < 5 → x ≤ 5 → L_X12_testOf_46 N μ kc kc34 (bf c 5) x3 x4 (nI a) (nI x) (nI k) N 0 0 = kc34 (nI (max x (ws C P hid c a k))) (nI (k + 1)) := by
    intro kc34 x k hk hx
    obtain ⟨-, tk, tk2⟩ := tell_both (N := N) hG hN ha hh hk
    refine loopQ (S := Nat) (fun n i q => L_X12_testOf_46 N μ kc kc34 (bf c 5) x3 x4 (nI a) (nI x) (nI k) n (nI q) (nI i)) 5 (fun i q => q = cntb (fun o => c o && (tl C P o a hid == tl C P k a hid)) i) (fun o => o = kc34 (nI (max x (ws C P hid c a k))) (nI (k + 1))) ?_ ?_ N 0 0 (Nat.zero_le _) (by omega) rfl
    · intro n q hI
      have := cntb_le (fun o => c o && (tl C P o a hid == tl C P k a hid)) 5
      show L_X12_testOf_46 N μ kc kc34 (bf c 5) x3 x4 (nI a) (nI x) (nI k) (n + 1) (nI q) (nI 5) = _
      rw [L_X12_testOf_46, if_pos (show (5 : Int32) ≤ nI 5 by decide), bf_bit c hk, nI_1 k]
      unfold ws
      cases hc : c k with
      | false =>
        rw [if_neg (show ¬ bI false = 1 by decide), if_neg (show ¬ false = true by decide), Nat.max_eq_left (Nat.zero_le _)]
      | true =>
        rw [if_pos (show bI true = 1 from rfl), if_pos (show true = true from rfl), ← hI]
        by_cases e : q ≤ x
        · rw [if_pos (nI_le e (by omega)), Nat.max_eq_left e]
        · rw [if_neg (show ¬ nI q ≤ nI x by rw [nI_leI (by omega) (by omega)]; exact e), Nat.max_eq_right (by omega)]
    · intro n i q hi hI ih
      obtain ⟨-, ti, ti2⟩ := tell_both (N := N) hG hN ha hh hi
      show L_X12_testOf_46 N μ kc kc34 (bf c 5) x3 x4 (nI a) (nI x) (nI k) (n + 1) (nI q) (nI i) = _
      rw [L_X12_testOf_46, if_neg (show ¬ (5 : Int32) ≤ nI i from nI_ge (b := 5) (by omega) (by omega)), hNow.2.2.2 hR, ti, bp_s, tk, bp_s, bf_bit c hi, nI_1 i, nI_z]
      by_cases e : tl C P i a hid = tl C P k a hid
      · rw [if_pos (by rw [e])]
        cases hci : c i with
        | false =>
          rw [show bI false = (0 : Int32) from rfl, nI_z]
          exact ih q (by rw [cntb, hci, hI]; rfl)
        | true =>
          rw [show bI true = (1 : Int32) from rfl, nI_1 q]
          exact ih (q + 1) (by rw [cntb, hci, hI, e, beq_self_eq_true]; rfl)
      · rw [if_neg (by rw [nI_eq (by omega) (by omega)]; exact e)]
        exact ih q (by rw [cntb, hI, beq_eq_false_iff_ne.mpr e, Bool.and_false]; rfl)
  refine loopQ (S := Nat) (fun n i q => L_X12_testOf_34 N μ kc (bf c 5) x3 x4 (nI a) n (nI q) (nI i)) 5 (fun i q => q = mxb (ws C P hid c a) i) (fun o => o = if x4 ≤ nI (wst C P hid c a) then kc x3 x4 (nI (a + 1)) else kc (nI a) (nI (wst C P hid c a)) (nI (a + 1))) ?_ ?_ N 0 0 (Nat.zero_le _) (by omega) rfl
  · intro n q hI
    show L_X12_testOf_34 N μ kc (bf c 5) x3 x4 (nI a) (n + 1) (nI q) (nI 5) = _
    unfold L_X12_testOf_34 J_X12_testOf_145
    rw [if_pos (show (5 : Int32) ≤ nI 5 by decide), hI, show mxb (ws C P hid c a) 5 = wst C P hid c a from rfl, nI_1 a]
    by_cases e : x4 ≤ nI (wst C P hid c a)
    · rw [if_pos e, if_pos e, if_pos e]
    · rw [if_neg e, if_neg e, if_neg e]
  · intro n i q hi hI ih
    have : q ≤ 5 := by rw [hI]; exact mxb_le (fun _ _ => ws_le)
    show L_X12_testOf_34 N μ kc (bf c 5) x3 x4 (nI a) (n + 1) (nI q) (nI i) = _
    rw [L_X12_testOf_34, if_neg (show ¬ (5 : Int32) ≤ nI i from nI_ge (b := 5) (by omega) (by omega)), inner _ q i hi this]
    exact ih _ (by rw [mxb, hI])
theorem test_both {N C P J R hid ns : Nat} {kd sr sj st : Nat → Nat} {σ μ : St} (hG : RGm C P J R σ μ) (hNow : Now J R hid ns kd sr sj st σ μ) (hN : 5000 ≤ N) (hR : 0 < R) (c : Nat → Bool) :
    ∃ r τ, D_X11_testFor N σ (bf c 5) = some (r, τ) ∧ L_X12_testOf_15 N μ (bf c 5) N (-1) 6 0 = some r ∧ Kp [9] σ τ := by
  have l := hG.1.le
  have key : ∀ (d i n1 n2 : Nat) (b e : Int32) (s : St), i + d = R → d < n1 → d < n2 → Kp [9] σ s → ∃ r τ, L_X11_testFor_8 N (bf c 5) n1 b e (nI i) s = some (r, τ) ∧ L_X12_testOf_15 N μ (bf c 5) n2 b e (nI i) = some r ∧ Kp [9] σ τ := by
    intro d
    induction d with
    | zero =>
      intro i m1 m2 b e s hi h1 h2 hK
      obtain ⟨m1, rfl⟩ : ∃ q, m1 = q + 1 := ⟨m1 - 1, by omega⟩
      obtain ⟨m2, rfl⟩ : ∃ q, m2 = q + 1 := ⟨m2 - 1, by omega⟩
      rw [L_X11_testFor_8, L_X12_testOf_15, hK 20 (by decide), hG.2.2.2.1, hG.2.2.2.2.2.2.2.1, if_pos (show nI R ≤ nI i by rw [nI_leI (by omega) (by omega)]; omega), if_pos (show nI R ≤ nI i by rw [nI_leI (by omega) (by omega)]; omega)]
      exact ⟨_, _, rfl, rfl, hK⟩
    | succ d ih =>
      intro i m1 m2 b e s hi h1 h2 hK
      obtain ⟨m1, rfl⟩ : ∃ q, m1 = q + 1 := ⟨m1 - 1, by omega⟩
      obtain ⟨m2, rfl⟩ : ∃ q, m2 = q + 1 := ⟨m2 - 1, by omega⟩
      rw [L_X11_testFor_8, L_X12_testOf_15, hK 20 (by decide), hG.2.2.2.1, hG.2.2.2.2.2.2.2.1, if_neg (show ¬ nI R ≤ nI i by rw [nI_leI (by omega) (by omega)]; omega), if_neg (show ¬ nI R ≤ nI i by rw [nI_leI (by omega) (by omega)]; omega)]
      by_cases c0 : bf c 5 = 0
      · rw [if_pos c0, if_pos c0]
        exact ⟨_, _, rfl, rfl, hK⟩
      · have hG2 : RGm C P J R s μ := hG.move (hK.mono (by decide)) KpM.rfl
        have hN2 : Now J R hid ns kd sr sj st s μ := hNow.move (hK.mono (by decide)) KpM.rfl
        obtain ⟨τ, x1, x2⟩ := wsortX (N := N) hG2 hN2 hN hR c (show i < R by omega)
        rw [if_neg c0, if_neg c0, x1, bs_s, wsortM hG hNow hN hR c (show i < R by omega), nI_1 i]
        by_cases q : e ≤ nI (wst C P hid c i)
        · rw [if_pos q, if_pos q]
          exact ih (i + 1) m1 m2 b e τ (by omega) (by omega) (by omega) (hK.trans x2)
        · rw [if_neg q, if_neg q]
          exact ih (i + 1) m1 m2 _ _ τ (by omega) (by omega) (by omega) (hK.trans x2)
  exact key R 0 N N (-1) 6 σ (by omega) (by omega) (by omega) Kp.rfl
theorem judge_both {N C P J R hid ns : Nat} {kd sr sj st : Nat → Nat} {σ μ : St} (hG : RGm C P J R σ μ) (hNow : Now J R hid ns kd sr sj st σ μ) (hN : 5000 ≤ N) {j : Nat} (hj : j < J) (y : Int32) :
    ∃ r τ, D_X11_judge N σ (nI j) y = some (r, τ) ∧ D_X12_tellJudge N μ (nI j) y = some r ∧ Kp [9] σ τ := by
  have l := hG.1.le
  have hR := hG.pos (by omega)
  obtain ⟨q1, q2, q3⟩ := hNow.1.2.2.2.2.1 j hj
  obtain ⟨t1, u1, u2⟩ := to_both (N := N) hG hNow hN hj
  obtain ⟨t2, v1, v2⟩ := twins_both (N := N) hG hNow hN hj
  obtain ⟨t3, τ, w1, w2, w3⟩ := test_both (N := N) hG hNow hN hR (fun k => cbF C P hid sr sj st j k ns)
  unfold D_X11_judge D_X12_tellJudge D_X12_testOf
  rw [isJudge_X hG, bp_s, tI_nI hj (by omega), if_neg (show ¬ (1 : Int32) = 0 by decide), gi_nI (by omega) (by omega), gi_nI (by omega) (by omega), nI_clamp (by omega), show σ 11 j = nI (kd j) from q2, q3, u1, u2, bp_s, bp_s, sortsX hG hNow hN hj hR, sortsM hG hNow hN hj hR, bp_s, bp_s, bp_s, bp_s, w1, w2, bs_s, bp_s, judgeAt_X hNow (by omega) hj, bp_s, v1, v2, bp_s, bp_s]
  by_cases e0 : y = 0
  · rw [if_pos e0, if_pos e0]; exact ⟨_, _, rfl, rfl, Kp.rfl⟩
  · rw [if_neg e0, if_neg e0]
    by_cases e1 : y = 1
    · rw [if_pos e1, if_pos e1]; exact ⟨_, _, rfl, rfl, Kp.rfl⟩
    · rw [if_neg e1, if_neg e1]
      by_cases e2 : y = 2
      · rw [if_pos e2, if_pos e2]; exact ⟨_, _, rfl, rfl, Kp.rfl⟩
      · rw [if_neg e2, if_neg e2]
        by_cases e3 : y = 3
        · rw [if_pos e3, if_pos e3]; exact ⟨_, _, rfl, rfl, w3⟩
        · rw [if_neg e3, if_neg e3]
          by_cases e4 : y = 4
          · rw [if_pos e4, if_pos e4]; exact ⟨_, _, rfl, rfl, Kp.rfl⟩
          · rw [if_neg e4, if_neg e4]; exact ⟨_, _, rfl, rfl, Kp.rfl⟩
theorem q_judge {N n : Nat} {σ μ : St} (hN : 5000 ≤ N) (h : RelE n σ μ) (x y : Int32) : Ok2 n (D_X11_judge N σ x y) (pu μ (D_X12_judge N μ x y)) := by
  have h0 := h
  obtain ⟨C, P, J, R, gr, hn, hp, hG, ⟨hid, ns, kd, sr, sj, st, hNow⟩, hI, hT⟩ := h
  have l := hG.1.le
  rcases tI_cases x (n := J) (by omega) with t | ⟨j, hj, rfl, t⟩
  · unfold D_X11_judge D_X12_judge
    rw [isJudge_X hG, isJudge_M hG, bp_s, bp_s, t, if_pos rfl, if_pos rfl]
    exact ⟨_, σ, μ, rfl, rfl, h0.up⟩
  · obtain ⟨r, τ, a1, a2, a3⟩ := judge_both (N := N) hG hNow hN hj y
    unfold D_X12_judge
    rw [a1, isJudge_M hG, bp_s, t, if_neg (show ¬ (1 : Int32) = 0 by decide), a2, bp_s]
    exact Ok2.moved h0 (a3.mono (by decide)) KpM.rfl
