/-! judge: to whom, of which sort, what to show him, twins -/
def twb (C P kd R a b : Nat) : Bool := decide (∀ s, s < R → tl C P kd s a = tl C P kd s b)
theorem twb_t {C P kd R a b : Nat} (h : ∀ s, s < R → tl C P kd s a = tl C P kd s b) : twb C P kd R a b = true := decide_eq_true h
theorem twb_f {C P kd R a b s : Nat} (hs : s < R) (h : ¬ tl C P kd s a = tl C P kd s b) : twb C P kd R a b = false := decide_eq_false (fun q => h (q s hs))
theorem twinX {N C P J R kd : Nat} {σ μ : St} (hG : RGm C P J R σ μ) (hN : 5000 ≤ N) (hk : kd < 5) {a b : Nat} (ha : a < R) (hb : b < R) : D_X6_areTwins N σ kd (nI a) (nI b) = some (bI (twb C P kd R a b)) := by
  have l := hG.1.le
  unfold D_X6_areTwins
  refine loopQ (S := Unit) (fun n i _ => L_X6_areTwins_3 N σ kd (nI a) (nI b) n (nI i)) R (fun i _ => ∀ k, k < i → tl C P kd (if R ≤ a + k then a + k - R else a + k) a = tl C P kd (if R ≤ a + k then a + k - R else a + k) b) (fun o => o = some (bI (twb C P kd R a b))) ?_ ?_ N 0 () (Nat.zero_le _) (by omega) (fun k hk => absurd hk (Nat.not_lt_zero k))
  · intro n s hI
    show L_X6_areTwins_3 N σ kd (nI a) (nI b) (n + 1) (nI R) = _
    rw [L_X6_areTwins_3, hG.2.2.2.1, if_pos (by rw [nI_leI (by omega) (by omega)]; omega), twb_t (fun s hs => ?_)]
    · rfl
    · rcases Nat.lt_or_ge s a with q | q
      · have := hI (s + R - a) (by omega)
        rw [if_pos (by omega), show a + (s + R - a) - R = s by omega] at this
        exact this
      · have := hI (s - a) (by omega)
        rw [if_neg (by omega), show a + (s - a) = s by omega] at this
        exact this
  · intro n i s hi hI ih
    show L_X6_areTwins_3 N σ kd (nI a) (nI b) (n + 1) (nI i) = _
    rw [L_X6_areTwins_3, hG.2.2.2.1, if_neg (by rw [nI_leI (by omega) (by omega)]; omega), nI_add]
    have step : ∀ q : Nat, q < R → q = (if R ≤ a + i then a + i - R else a + i) → J_X6_areTwins_39 N σ (L_X6_areTwins_3 N σ kd (nI a) (nI b) n) kd (nI a) (nI b) (nI i) (nI q) = some (bI (twb C P kd R a b)) := by
      intro q hq eq
      obtain ⟨w1, -, w3⟩ := tell_both (N := N) hG hN hq ha hk
      obtain ⟨v1, -, v3⟩ := tell_both (N := N) hG hN hq hb hk
      unfold J_X6_areTwins_39
      rw [w1, bp_s, v1, bp_s, nI_1]
      by_cases e : tl C P kd q a = tl C P kd q b
      · rw [if_pos (by rw [e])]
        refine ih () (fun k hk => ?_)
        by_cases ek : k = i
        · subst ek; rw [← eq]; exact e
        · exact hI k (by omega)
      · rw [if_neg (by rw [nI_eq (by omega) (by omega)]; exact e), twb_f hq e]
        rfl
    by_cases c : R ≤ a + i
    · rw [if_pos (by rw [nI_leI (by omega) (by omega)]; exact c), pk_sub c]
      exact step _ (by omega) (by rw [if_pos c])
    · rw [if_neg (by rw [nI_leI (by omega) (by omega)]; exact c)]
      exact step _ (by omega) (by rw [if_neg c])
theorem twinM {N C P J R kd : Nat} {σ μ : St} (hG : RGm C P J R σ μ) (hN : 5000 ≤ N) (hk : kd < 5) {a b : Nat} (ha : a < R) (hb : b < R) : D_X12_isTwin N μ (nI kd) (nI a) (nI b) = some (bI (twb C P kd R a b)) := by
  have l := hG.1.le
  unfold D_X12_isTwin
  refine loopQ (S := Unit) (fun n i _ => L_X12_isTwin_3 N μ (nI kd) (nI a) (nI b) n (nI i)) R (fun i _ => ∀ k, k < i → tl C P kd k a = tl C P kd k b) (fun o => o = some (bI (twb C P kd R a b))) ?_ ?_ N 0 () (Nat.zero_le _) (by omega) (fun k hk => absurd hk (Nat.not_lt_zero k))
  · intro n s hI
    show L_X12_isTwin_3 N μ (nI kd) (nI a) (nI b) (n + 1) (nI R) = _
    rw [L_X12_isTwin_3, hG.2.2.2.2.2.2.2.1, if_pos (by rw [nI_leI (by omega) (by omega)]; omega), twb_t hI]
    rfl
  · intro n i s hi hI ih
    show L_X12_isTwin_3 N μ (nI kd) (nI a) (nI b) (n + 1) (nI i) = _
    obtain ⟨-, w1, w3⟩ := tell_both (N := N) hG hN hi ha hk
    obtain ⟨-, v1, v3⟩ := tell_both (N := N) hG hN hi hb hk
    rw [L_X12_isTwin_3, hG.2.2.2.2.2.2.2.1, if_neg (by rw [nI_leI (by omega) (by omega)]; omega), w1, bp_s, v1, bp_s, nI_1]
    by_cases e : tl C P kd i a = tl C P kd i b
    · rw [if_pos (by rw [e])]
      refine ih () (fun k hk => ?_)
      by_cases ek : k = i
      · subst ek; exact e
      · exact hI k (by omega)
    · rw [if_neg (by rw [nI_eq (by omega) (by omega)]; exact e), twb_f hi e]
      rfl
theorem twins_both {N C P J R hid ns : Nat} {kd sr sj st : Nat → Nat} {σ μ : St} (hG : RGm C P J R σ μ) (hNow : Now J R hid ns kd sr sj st σ μ) (hN : 5000 ≤ N) {j : Nat} (hj : j < J) : ∃ r, D_X6_twins N σ (kd j) = some r ∧ D_X12_twinsOf N μ (nI j) = some r := by
  have l := hG.1.le
  obtain ⟨q1, q2, q3⟩ := hNow.1.2.2.2.2.1 j hj
  have inner : ∀ (d b a n1 n2 : Nat) (k1 k2 : Int32 → Option Int32), a < b → b + d = R → d < n1 → d < n2 → (∃ r, k1 (nI (a + 1)) = some r ∧ k2 (nI (a + 1)) = some r) → ∃ r, L_X6_twins_14 N σ k1 (kd j) (nI a) n1 (nI b) = some r ∧ L_X12_twinsOf_14 N μ k2 (nI j) (nI a) n2 (nI b) = some r := by
    intro d
    induction d with
    | zero =>
      intro b a n1 n2 k1 k2 hab hb h1 h2 hk
      obtain ⟨n1, rfl⟩ : ∃ q, n1 = q + 1 := ⟨n1 - 1, by omega⟩
      obtain ⟨n2, rfl⟩ : ∃ q, n2 = q + 1 := ⟨n2 - 1, by omega⟩
      rw [L_X6_twins_14, L_X12_twinsOf_14, hG.2.2.2.1, hG.2.2.2.2.2.2.2.1, if_pos (show nI R ≤ nI b by rw [nI_leI (by omega) (by omega)]; omega), if_pos (show nI R ≤ nI b by rw [nI_leI (by omega) (by omega)]; omega), nI_1]
      exact hk
    | succ d ih =>
      intro b a n1 n2 k1 k2 hab hb h1 h2 hk
      obtain ⟨n1, rfl⟩ : ∃ q, n1 = q + 1 := ⟨n1 - 1, by omega⟩
      obtain ⟨n2, rfl⟩ : ∃ q, n2 = q + 1 := ⟨n2 - 1, by omega⟩
      rw [L_X6_twins_14, L_X12_twinsOf_14, hG.2.2.2.1, hG.2.2.2.2.2.2.2.1, if_neg (show ¬ nI R ≤ nI b by rw [nI_leI (by omega) (by omega)]; omega), if_neg (show ¬ nI R ≤ nI b by rw [nI_leI (by omega) (by omega)]; omega), twinX hG hN q1 (show a < R by omega) (show b < R by omega), bp_s, gi_nI (by omega) (by omega), nI_clamp (by omega), q3, twinM hG hN q1 (show a < R by omega) (show b < R by omega), bp_s, nI_1 b]
      cases twb C P (kd j) R a b with
      | false =>
        rw [if_pos (show bI false = 0 from rfl), if_pos (show bI false = 0 from rfl)]
        exact ih (b + 1) a n1 n2 k1 k2 (by omega) (by omega) (by omega) (by omega) hk
      | true =>
        rw [if_neg (show ¬ bI true = 0 by decide), if_neg (show ¬ bI true = 0 by decide), Int32.mul_comm (1000 : Int32)]
        exact ⟨_, rfl, rfl⟩
  have outer : ∀ (d a n1 n2 : Nat), a + d = R → d < n1 → d < n2 → ∃ r, L_X6_twins_2 N σ (kd j) n1 (nI a) = some r ∧ L_X12_twinsOf_2 N μ (nI j) n2 (nI a) = some r := by
    intro d
    induction d with
    | zero =>
      intro a n1 n2 hb h1 h2
      obtain ⟨n1, rfl⟩ : ∃ q, n1 = q + 1 := ⟨n1 - 1, by omega⟩
      obtain ⟨n2, rfl⟩ : ∃ q, n2 = q + 1 := ⟨n2 - 1, by omega⟩
      rw [L_X6_twins_2, L_X12_twinsOf_2, hG.2.2.2.1, hG.2.2.2.2.2.2.2.1, if_pos (show nI R ≤ nI a by rw [nI_leI (by omega) (by omega)]; omega), if_pos (show nI R ≤ nI a by rw [nI_leI (by omega) (by omega)]; omega)]
      exact ⟨_, rfl, rfl⟩
    | succ d ih =>
      intro a n1 n2 hb h1 h2
      obtain ⟨n1, rfl⟩ : ∃ q, n1 = q + 1 := ⟨n1 - 1, by omega⟩
      obtain ⟨n2, rfl⟩ : ∃ q, n2 = q + 1 := ⟨n2 - 1, by omega⟩
      rw [L_X6_twins_2, L_X12_twinsOf_2, hG.2.2.2.1, hG.2.2.2.2.2.2.2.1, if_neg (show ¬ nI R ≤ nI a by rw [nI_leI (by omega) (by omega)]; omega), if_neg (show ¬ nI R ≤ nI a by rw [nI_leI (by omega) (by omega)]; omega), nI_1]
      exact inner d (a + 1) a N N _ _ (by omega) (by omega) (by omega) (by omega) (ih (a + 1) n1 n2 (by omega) (by omega) (by omega))
  exact outer R 0 N N (by omega) (by omega) (by omega)
theorem to_both {N C P J R hid ns : Nat} {kd sr sj st : Nat → Nat} {σ μ : St} (hG : RGm C P J R σ μ) (hNow : Now J R hid ns kd sr sj st σ μ) (hN : 5000 ≤ N) {j : Nat} (hj : j < J) : ∃ r, D_X0_shownTo N σ (nI j) = some r ∧ D_X12_toJudge N μ (nI j) = some r := by
  have l := hG.1.le
  obtain ⟨⟨k1, k2, k3, k4, k5, k6⟩, n2, n3, n4⟩ := hNow
  have key : ∀ (d i n1 n2 : Nat) (v : Int32), i + d = ns → d < n1 → d < n2 → ∃ r, L_X0_shownTo_4 N σ (nI j) n1 v (nI i) = some r ∧ L_X12_toJudge_4 N μ (nI j) n2 v (nI i) = some r := by
    intro d
    induction d with
    | zero =>
      intro i m1 m2 v hi h1 h2
      obtain ⟨m1, rfl⟩ : ∃ q, m1 = q + 1 := ⟨m1 - 1, by omega⟩
      obtain ⟨m2, rfl⟩ : ∃ q, m2 = q + 1 := ⟨m2 - 1, by omega⟩
      rw [L_X0_shownTo_4, L_X12_toJudge_4, k4, n2, if_pos (show nI ns ≤ nI i by rw [nI_leI (by omega) (by omega)]; omega), if_pos (show nI ns ≤ nI i by rw [nI_leI (by omega) (by omega)]; omega)]
      exact ⟨_, rfl, rfl⟩
    | succ d ih =>
      intro i m1 m2 v hi h1 h2
      obtain ⟨m1, rfl⟩ : ∃ q, m1 = q + 1 := ⟨m1 - 1, by omega⟩
      obtain ⟨m2, rfl⟩ : ∃ q, m2 = q + 1 := ⟨m2 - 1, by omega⟩
      obtain ⟨a1, a2, a3, a4, a5, a6, a7, a8, a9⟩ := k6 i (by omega)
      rw [L_X0_shownTo_4, L_X12_toJudge_4, k4, n2, if_neg (show ¬ nI ns ≤ nI i by rw [nI_leI (by omega) (by omega)]; omega), if_neg (show ¬ nI ns ≤ nI i by rw [nI_leI (by omega) (by omega)]; omega), gi_nI (by omega) (by omega), nI_clamp (by omega), show σ 13 i = nI (sj i) from a5, nI_m3, nI_1 (3 * i), gi_nI (by omega) (by omega), nI_clamp (by omega), a8, nI_1 i, show v + (0 : Int32) = v from Int32.add_zero _]
      by_cases e : nI (sj i) = nI j
      · rw [if_pos e, if_pos e]
        exact ih (i + 1) m1 m2 _ (by omega) (by omega) (by omega)
      · rw [if_neg e, if_neg e]
        exact ih (i + 1) m1 m2 _ (by omega) (by omega) (by omega)
  exact key ns 0 N N 0 (by omega) (by omega) (by omega)
/-- whether a judge may be of a kind, by the first n that were shown -/
def cbF (C P hid : Nat) (sr sj st : Nat → Nat) (j kk : Nat) : Nat → Bool
  | 0 => true
  | n + 1 => cbF C P hid sr sj st j kk n && (!(sj n == j) || (tl C P kk (sr n) hid == st n))
theorem cbF_false {C P hid : Nat} {sr sj st : Nat → Nat} {j kk i : Nat} (h : cbF C P hid sr sj st j kk (i + 1) = false) : ∀ m, i < m → cbF C P hid sr sj st j kk m = false := by
  intro m
  induction m with
  | zero => intro q; omega
  | succ m im =>
    intro q
    by_cases e : m = i
    · subst e; exact h
    · rw [cbF, im (by omega), Bool.false_and]
theorem couldX {N C P J R hid ns : Nat} {kd sr sj st : Nat → Nat} {σ μ : St} (hG : RGm C P J R σ μ) (hNow : Now J R hid ns kd sr sj st σ μ) (hN : 5000 ≤ N) {j kk : Nat} (hj : j < J) (hR : 0 < R) (hk : kk < 5) : D_X11_couldBe N σ (nI j) kk = some (bI (cbF C P hid sr sj st j kk ns)) := by
  have l := hG.1.le
  obtain ⟨⟨k1, k2, k3, k4, k5, k6⟩, n2, n3, n4⟩ := hNow
  have hh := k2 hR
  unfold D_X11_couldBe
  refine loopQ (S := Unit) (fun n i _ => L_X11_couldBe_2 N σ (nI j) kk n (nI i)) ns (fun i _ => cbF C P hid sr sj st j kk i = true) (fun o => o = some (bI (cbF C P hid sr sj st j kk ns))) ?_ ?_ N 0 () (Nat.zero_le _) (by omega) rfl
  · intro n s hI
    show L_X11_couldBe_2 N σ (nI j) kk (n + 1) (nI ns) = _
    rw [L_X11_couldBe_2, k4, if_pos (show nI ns ≤ nI ns by rw [nI_leI (by omega) (by omega)]; omega), hI]
    rfl
  · intro n i s hi hI ih
    obtain ⟨a1, a2, a3, a4, a5, a6, a7, a8, a9⟩ := k6 i hi
    obtain ⟨w1, -, w3⟩ := tell_both (N := N) hG hN a1 hh hk
    show L_X11_couldBe_2 N σ (nI j) kk (n + 1) (nI i) = _
    rw [L_X11_couldBe_2, k4, if_neg (show ¬ nI ns ≤ nI i by rw [nI_leI (by omega) (by omega)]; omega), gi_nI (by omega) (by omega), nI_clamp (by omega), show σ 13 i = nI (sj i) from a5, gi_nI (by omega) (by omega), show σ 12 i = nI (sr i) from a4, k3, w1, bp_s, gi_nI (by omega) (by omega), show σ 14 i = nI (st i) from a6, nI_1 i]
    by_cases e1 : sj i = j
    · rw [if_pos (by rw [e1])]
      by_cases e : tl C P kk (sr i) hid = st i
      · rw [if_pos (by rw [e])]
        exact ih () (by rw [cbF, hI, e]; simp)
      · rw [if_neg (by rw [nI_eq (by omega) (by omega)]; exact e), cbF_false (i := i) (by rw [cbF, e1, beq_eq_false_iff_ne.mpr e, beq_self_eq_true]; simp) ns hi]
        rfl
    · rw [if_neg (by rw [nI_eq (by omega) (by omega)]; exact e1)]
      exact ih () (by rw [cbF, hI, beq_eq_false_iff_ne.mpr e1]; simp)
/-- the bits of the sorts -/
def bf (c : Nat → Bool) : Nat → Int32
  | 0 => 0
  | n + 1 => if c n then bf c n ||| ((1 : Int32) <<< (nI n &&& 31)) else bf c n
def bf5 (b0 b1 b2 b3 b4 : Bool) : Int32 := bf (fun k => if k = 0 then b0 else if k = 1 then b1 else if k = 2 then b2 else if k = 3 then b3 else b4) 5
theorem bf_5 (c : Nat → Bool) : bf c 5 = bf5 (c 0) (c 1) (c 2) (c 3) (c 4) := rfl
theorem bf5_bit : ∀ b0 b1 b2 b3 b4 : Bool, ∀ k, k < 5 → ((bf5 b0 b1 b2 b3 b4 >>> (nI k &&& 31)) &&& (1 : Int32)) = bI (if k = 0 then b0 else if k = 1 then b1 else if k = 2 then b2 else if k = 3 then b3 else b4) := by decide +kernel
theorem bf_bit (c : Nat → Bool) {k : Nat} (hk : k < 5) : ((bf c 5 >>> (nI k &&& 31)) &&& (1 : Int32)) = bI (c k) := by
  rw [bf_5, bf5_bit _ _ _ _ _ k hk]
  rcases (show k = 0 ∨ k = 1 ∨ k = 2 ∨ k = 3 ∨ k = 4 by omega) with rfl | rfl | rfl | rfl | rfl <;> rfl
theorem sortsX {N C P J R hid ns : Nat} {kd sr sj st : Nat → Nat} {σ μ : St} (hG : RGm C P J R σ μ) (hNow : Now J R hid ns kd sr sj st σ μ) (hN : 5000 ≤ N) {j : Nat} (hj : j < J) (hR : 0 < R) : D_X11_sorts N σ (nI j) = some (bf (fun k => cbF C P hid sr sj st j k ns) 5) := by
  unfold D_X11_sorts
  refine loopQ (S := Int32) (fun n i s => L_X11_sorts_4 N σ (nI j) n s (nI i)) 5 (fun i s => s = bf (fun k => cbF C P hid sr sj st j k ns) i) (fun o => o = some (bf (fun k => cbF C P hid sr sj st j k ns) 5)) ?_ ?_ N 0 0 (Nat.zero_le _) (by omega) rfl
  · intro n s hI
    show L_X11_sorts_4 N σ (nI j) (n + 1) s (nI 5) = _
    rw [L_X11_sorts_4, if_pos (show (5 : Int32) ≤ nI 5 by decide), hI]
  · intro n i s hi hI ih
    show L_X11_sorts_4 N σ (nI j) (n + 1) s (nI i) = _
    rw [L_X11_sorts_4, if_neg (show ¬ (5 : Int32) ≤ nI i from nI_ge (b := 5) (by omega) (by omega)), gi_nI (by omega) (by omega), nI_clamp (by omega), couldX hG hNow hN hj hR hi, bp_s, nI_1]
    cases hc : cbF C P hid sr sj st j i ns with
    | false =>
      rw [if_pos (show bI false = 0 from rfl)]
      exact ih _ (by rw [bf, hc, hI]; rfl)
    | true =>
      rw [if_neg (show ¬ bI true = 0 by decide)]
      exact ih _ (by rw [bf, hc, hI]; rfl)
theorem sortsM {N C P J R hid ns : Nat} {kd sr sj st : Nat → Nat} {σ μ : St} (hG : RGm C P J R σ μ) (hNow : Now J R hid ns kd sr sj st σ μ) (hN : 5000 ≤ N) {j : Nat} (hj : j < J) (hR : 0 < R) : D_X12_sortsOf N μ (nI j) = some (bf (fun k => cbF C P hid sr sj st j k ns) 5) := by
  have l := hG.1.le
  obtain ⟨⟨k1, k2, k3, k4, k5, k6⟩, n2, n3, n4⟩ := hNow
  have hh := k2 hR
  have inner : ∀ (kc : Int32 → Int32 → Option Int32) (x : Int32) (kk : Nat), kk < 5 → L_X12_sortsOf_15 N μ kc (nI j) x (nI kk) N 1 0 = kc (if cbF C P hid sr sj st j kk ns then x ||| ((1 : Int32) <<< (nI kk &&& 31)) else x) (nI (kk + 1)) := by
    intro kc x kk hk
    refine loopQ (S := Bool) (fun n i b => L_X12_sortsOf_15 N μ kc (nI j) x (nI kk) n (bI b) (nI (3 * i))) ns (fun i b => b = cbF C P hid sr sj st j kk i) (fun o => o = kc (if cbF C P hid sr sj st j kk ns then x ||| ((1 : Int32) <<< (nI kk &&& 31)) else x) (nI (kk + 1))) ?_ ?_ N 0 true (Nat.zero_le _) (by omega) rfl
    · intro n b hI
      show L_X12_sortsOf_15 N μ kc (nI j) x (nI kk) (n + 1) (bI b) (nI (3 * ns)) = _
      rw [L_X12_sortsOf_15, n2, nI_m3, if_pos (show nI (3 * ns) ≤ nI (3 * ns) by rw [nI_leI (by omega) (by omega)]; omega), nI_1 kk, ← hI]
      cases b with
      | false =>
        rw [if_pos (show bI false = 0 from rfl), show x ||| (0 : Int32) = x by simp]
        rfl
      | true =>
        rw [if_neg (show ¬ bI true = 0 by decide)]
        rfl
    · intro n i b hi hI ih
      obtain ⟨a1, a2, a3, a4, a5, a6, a7, a8, a9⟩ := k6 i hi
      obtain ⟨-, w1, w3⟩ := tell_both (N := N) hG hN a1 hh hk
      show L_X12_sortsOf_15 N μ kc (nI j) x (nI kk) (n + 1) (bI b) (nI (3 * i)) = _
      rw [L_X12_sortsOf_15, n2, nI_m3, if_neg (show ¬ nI (3 * ns) ≤ nI (3 * i) by rw [nI_leI (by omega) (by omega)]; omega), nI_p3, nI_1 (3 * i), nI_p2, gi_nI (by omega) (by omega), nI_clamp (by omega), a8, gi_nI (by omega) (by omega), nI_clamp (by omega), a7, n4 hR, w1, bp_s, gi_nI (by omega) (by omega), nI_clamp (by omega), a9]
      cases hb : b with
      | false =>
        rw [if_pos (show bI false = 0 from rfl)]
        exact ih false (by rw [cbF, ← hI, hb, Bool.false_and])
      | true =>
        rw [if_neg (show ¬ bI true = 0 by decide)]
        by_cases e1 : sj i = j
        · rw [if_pos (by rw [e1])]
          by_cases e : tl C P kk (sr i) hid = st i
          · rw [if_pos (by rw [e])]
            exact ih true (by rw [cbF, ← hI, hb, e]; simp)
          · rw [if_neg (by rw [nI_eq (by omega) (by omega)]; exact e)]
            exact ih false (by rw [cbF, e1, beq_eq_false_iff_ne.mpr e, beq_self_eq_true]; simp)
        · rw [if_neg (by rw [nI_eq (by omega) (by omega)]; exact e1)]
          exact ih true (by rw [cbF, ← hI, hb, beq_eq_false_iff_ne.mpr e1]; simp)
  unfold D_X12_sortsOf
  refine loopQ (S := Int32) (fun n i s => L_X12_sortsOf_4 N μ (nI j) n s (nI i)) 5 (fun i s => s = bf (fun k => cbF C P hid sr sj st j k ns) i) (fun o => o = some (bf (fun k => cbF C P hid sr sj st j k ns) 5)) ?_ ?_ N 0 0 (Nat.zero_le _) (by omega) rfl
  · intro n s hI
    show L_X12_sortsOf_4 N μ (nI j) (n + 1) s (nI 5) = _
    rw [L_X12_sortsOf_4, if_pos (show (5 : Int32) ≤ nI 5 by decide), hI]
  · intro n i s hi hI ih
    show L_X12_sortsOf_4 N μ (nI j) (n + 1) s (nI i) = _
    rw [L_X12_sortsOf_4, if_neg (show ¬ (5 : Int32) ≤ nI i from nI_ge (b := 5) (by omega) (by omega)), inner _ _ _ hi]
    exact ih _ (by rw [bf, hI])
