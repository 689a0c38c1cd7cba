/-! parts: the reference's side, and both -/
def apb (C P kd R q : Nat) : Bool := decide (q / 64 < R) && (decide (q % 64 < R) && (decide (q / 64 < q % 64) && !twb C P kd R (q / 64) (q % 64)))
def TbM (C P kd R : Nat) (s : St) : Prop := (∀ a, a < R → ∀ b, b < R → s 37 (64 * a + b) = nI (tl C P kd a b)) ∧ ∀ q, q < 4096 → s 38 q = bI (apb C P kd R q)
theorem layTableM {N C P J R kd : Nat} {σ μ : St} (hG : RGm C P J R σ μ) (hN : 5000 ≤ N) (hk : kd < 5) (h64 : R ≤ 64) : ∃ ν, D_X12_layTable N μ (nI kd) = some ν ∧ TbM C P kd R ν ∧ KpM μ ν := by
  unfold D_X12_layTable
  refine loopQ (S := St) (fun n i s => L_X12_layTable_2 N (nI kd) n (nI i) s) 4096 (fun i s => (∀ q, q < i → (q / 64 < R → q % 64 < R → s 37 q = nI (tl C P kd (q / 64) (q % 64))) ∧ s 38 q = bI (apb C P kd R q)) ∧ KpM μ s) (fun o => ∃ ν, o = some ν ∧ TbM C P kd R ν ∧ KpM μ ν) ?_ ?_ N 0 μ (Nat.zero_le _) (by omega) ⟨fun q hq => absurd hq (Nat.not_lt_zero q), KpM.rfl⟩
  · intro n s ⟨i1, i2⟩
    show ∃ ν, L_X12_layTable_2 N (nI kd) (n + 1) (nI 4096) s = some ν ∧ _
    rw [L_X12_layTable_2, if_pos (show (4096 : Int32) ≤ nI 4096 by decide)]
    refine ⟨s, Eq.refl _, ⟨fun a ha b hb => ?_, fun q hq => (i1 q hq).2⟩, i2⟩
    have h1 : (64 * a + b) / 64 = a := by omega
    have h2 : (64 * a + b) % 64 = b := by omega
    have := (i1 (64 * a + b) (by omega)).1 (by omega) (by omega)
    rw [h1, h2] at this
    exact this
  · intro n i s hi ⟨i1, i2⟩ ih
    have hG2 : RGm C P J R σ s := hG.move Kp.rfl i2
    show ∃ ν, L_X12_layTable_2 N (nI kd) (n + 1) (nI i) s = some ν ∧ _
    have fin : ∀ (v : Int32) (b : Bool), b = apb C P kd R i → (i / 64 < R → i % 64 < R → v = nI (tl C P kd (i / 64) (i % 64))) → ∃ ν, L_X12_layTable_2 N (nI kd) n (nI i + 1) (pt (pt s 37 i v) 38 i (bI b)) = some ν ∧ TbM C P kd R ν ∧ KpM μ ν := by
      intro v b hb hv
      rw [nI_1 i]
      refine ih _ ⟨fun q hq => ?_, (i2.pt (Or.inr (Or.inr (Or.inl rfl)))).pt (Or.inr (Or.inr (Or.inr rfl)))⟩
      show (_ → _ → upd (s 37) i v q = _) ∧ upd (s 38) i (bI b) q = _
      by_cases e : q = i
      · subst e
        rw [upd_at, upd_at, hb]
        exact ⟨hv, rfl⟩
      · rw [upd_ne e, upd_ne e]
        exact i1 q (by omega)
    have none_ : ∀ b : Bool, b = apb C P kd R i → b = false → ¬ (i / 64 < R ∧ i % 64 < R) → ∃ ν, J_X12_layTable_41 N (L_X12_layTable_2 N (nI kd) n) (nI kd) (nI i) (nI (i / 64)) (nI (i % 64)) s = some ν ∧ TbM C P kd R ν ∧ KpM μ ν := by
      intro b hb hb0 hn
      unfold J_X12_layTable_41 J_X12_layTable_42 J_X12_layTable_66
      rw [if_pos rfl, gi_nI (by omega) (by omega), if_pos rfl, gi_nI (by omega) (by omega), nI_clamp (by omega)]
      subst hb0
      exact fin 0 false hb (fun h1 h2 => absurd ⟨h1, h2⟩ hn)
    rw [L_X12_layTable_2, if_neg (show ¬ (4096 : Int32) ≤ nI i from nI_ge (b := 4096) (by omega) (by omega)), show (64 : Int32) = nI 64 from rfl, pk_rem (a := i) (d := 64) (by omega) (by omega) (by omega), pk_div (a := i) (d := 64) (by omega) (by omega) (by omega), hG2.2.2.2.2.2.2.2.1]
    by_cases c1 : i / 64 < R
    · rw [if_neg (show ¬ nI R ≤ nI (i / 64) by rw [nI_leI (by omega) (by omega)]; omega)]
      by_cases c2 : i % 64 < R
      · rw [if_neg (show ¬ nI R ≤ nI (i % 64) by rw [nI_leI (by omega) (by omega)]; omega)]
        obtain ⟨-, w1, -⟩ := tell_both (N := N) hG2 hN c1 c2 hk
        unfold J_X12_layTable_42 J_X12_layTable_66
        have hG3 : RGm C P J R σ (pt s 37 i (nI (tl C P kd (i / 64) (i % 64)))) := hG.move Kp.rfl (i2.pt (Or.inr (Or.inr (Or.inl rfl))))
        rw [if_neg (show ¬ (1 : Int32) = 0 by decide), w1, bp_s, gi_nI (by omega) (by omega), if_neg (show ¬ (1 : Int32) = 0 by decide), gi_nI (by omega) (by omega), gi_nI (by omega) (by omega), nI_clamp (by omega), twinM hG3 hN hk c1 c2, bp_s]
        by_cases c3 : i / 64 < i % 64
        · rw [if_neg (show ¬ nI (i % 64) ≤ nI (i / 64) by rw [nI_leI (by omega) (by omega)]; omega)]
          cases ht : twb C P kd R (i / 64) (i % 64) with
          | false =>
            rw [if_pos (show bI false = 0 from rfl)]
            exact fin _ true (by unfold apb; rw [decide_eq_true c1, decide_eq_true c2, decide_eq_true c3, ht]; rfl) (fun _ _ => rfl)
          | true =>
            rw [if_neg (show ¬ bI true = 0 by decide)]
            exact fin _ false (by unfold apb; rw [ht]; simp) (fun _ _ => rfl)
        · rw [if_pos (show nI (i % 64) ≤ nI (i / 64) by rw [nI_leI (by omega) (by omega)]; omega)]
          exact fin _ false (by unfold apb; rw [decide_eq_false c3]; simp) (fun _ _ => rfl)
      · rw [if_pos (show nI R ≤ nI (i % 64) by rw [nI_leI (by omega) (by omega)]; omega)]
        exact none_ false (by unfold apb; rw [decide_eq_false c2]; simp) rfl (fun q => c2 q.2)
    · rw [if_pos (show nI R ≤ nI (i / 64) by rw [nI_leI (by omega) (by omega)]; omega)]
      exact none_ false (by unfold apb; rw [decide_eq_false c1]; rfl) rfl (fun q => c1 q.1)
theorem apartManyM {N C P kd R : Nat} {s : St} (hN : 5000 ≤ N) (h : TbM C P kd R s) : D_X12_apartMany N s = some (nI (cntb (apb C P kd R) 4096)) := by
  unfold D_X12_apartMany
  refine loopQ (S := Nat) (fun n i q => L_X12_apartMany_4 N s n (nI q) (nI i)) 4096 (fun i q => q = cntb (apb C P kd R) i) (fun o => o = some (nI (cntb (apb C P kd R) 4096))) ?_ ?_ N 0 0 (Nat.zero_le _) (by omega) rfl
  · intro n q hI
    show L_X12_apartMany_4 N s (n + 1) (nI q) (nI 4096) = _
    rw [L_X12_apartMany_4, if_pos (show (4096 : Int32) ≤ nI 4096 by decide), hI]
  · intro n i q hi hI ih
    show L_X12_apartMany_4 N s (n + 1) (nI q) (nI i) = _
    rw [L_X12_apartMany_4, if_neg (show ¬ (4096 : Int32) ≤ nI i from nI_ge (b := 4096) (by omega) (by omega)), gi_nI (by omega) (by omega), nI_clamp (by omega), h.2 i hi, nI_1 i]
    have e : nI q + bI (apb C P kd R i) = nI (q + if apb C P kd R i then 1 else 0) := by
      cases apb C P kd R i with
      | false => exact nI_z q
      | true => exact nI_1 q
    rw [e]
    exact ih _ (by rw [cntb, hI])
theorem isEnoughM {N C P J R kd one two : Nat} {σ s : St} (hG : RGm C P J R σ s) (hN : 5000 ≤ N) (h64 : R ≤ 64) (hT : TbM C P kd R s) (h1 : one < R) (h2 : two < R) (hC : 0 < C) (hP : P ≤ 3) :
    (Eno C P kd R one two → D_X12_isEnough N s (nI one) (nI two) = some 1) ∧ (¬ Eno C P kd R one two → D_X12_isEnough N s (nI one) (nI two) = some 0) := by
  have tb : ∀ a b, tl C P kd a b ≤ 30 := fun a b => by have := tl_le (C := C) (P := P) (kd := kd) (a := a) (b := b) hC; omega
  have inner : ∀ (Q : Option Int32 → Prop) (kc : Int32 → Option Int32) (a : Nat), a < R → ((∀ b, b < R → a < b → tl C P kd one a = tl C P kd one b → tl C P kd two a = tl C P kd two b → twb C P kd R a b = true) → Q (kc (nI (a + 1)))) → (¬ Eno C P kd R one two → Q (some 0)) → Q (L_X12_isEnough_15 N s kc (nI one) (nI two) (nI a) N (nI (a + 1))) := by
    intro Q kc a ha hq1 hq2
    have e64 : ∀ x y : Nat, (64 : Int32) * nI x + nI y = nI (64 * x + y) := fun x y => by
      rw [show (64 : Int32) = nI 64 from rfl, pk_mul, nI_add]
    have key : ∀ (d b n : Nat), a < b → b + d = R → d < n → (∀ b', b' < b → a < b' → tl C P kd one a = tl C P kd one b' → tl C P kd two a = tl C P kd two b' → twb C P kd R a b' = true) → Q (L_X12_isEnough_15 N s kc (nI one) (nI two) (nI a) n (nI b)) := by
      intro d
      induction d with
      | zero =>
        intro b n hab hb hn hI
        obtain ⟨n, rfl⟩ : ∃ q, n = q + 1 := ⟨n - 1, by omega⟩
        rw [L_X12_isEnough_15, hG.2.2.2.2.2.2.2.1, if_pos (show nI R ≤ nI b by rw [nI_leI (by omega) (by omega)]; omega), nI_1]
        exact hq1 (fun b' hb' => hI b' (by omega))
      | succ d ih =>
        intro b n hab hb hn hI
        obtain ⟨n, rfl⟩ : ∃ q, n = q + 1 := ⟨n - 1, by omega⟩
        unfold L_X12_isEnough_15 J_X12_isEnough_80 J_X12_isEnough_81
        rw [hG.2.2.2.2.2.2.2.1, if_neg (show ¬ nI R ≤ nI b by rw [nI_leI (by omega) (by omega)]; omega), e64, e64, e64, e64, e64, gi_nI (by omega) (by omega), gi_nI (by omega) (by omega), gi_nI (by omega) (by omega), gi_nI (by omega) (by omega), gi_nI (by omega) (by omega), nI_clamp (by omega), nI_clamp (by omega), nI_clamp (by omega), nI_clamp (by omega), nI_clamp (by omega), hT.1 one h1 a ha, hT.1 one h1 b (by omega), hT.1 two h2 a ha, hT.1 two h2 b (by omega), hT.2 (64 * a + b) (by omega), nI_1 b]
        have tb1 := tb one a
        have tb2 := tb one b
        have tb3 := tb two a
        have tb4 := tb two b
        have go : (tl C P kd one a = tl C P kd one b → tl C P kd two a = tl C P kd two b → twb C P kd R a b = true) → Q (L_X12_isEnough_15 N s kc (nI one) (nI two) (nI a) n (nI (b + 1))) := fun hh => by
          refine ih (b + 1) n (by omega) (by omega) (by omega) (fun b' hb' => ?_)
          by_cases e : b' = b
          · subst e; exact fun _ => hh
          · exact hI b' (by omega)
        by_cases c1 : tl C P kd one a = tl C P kd one b
        · rw [if_pos (show nI (tl C P kd one a) = nI (tl C P kd one b) by rw [c1])]
          by_cases c2 : tl C P kd two a = tl C P kd two b
          · rw [if_pos (show nI (tl C P kd two a) = nI (tl C P kd two b) by rw [c2]), if_neg (show ¬ (1 : Int32) = 0 by decide)]
            have ea : apb C P kd R (64 * a + b) = !twb C P kd R a b := by
              unfold apb
              rw [show (64 * a + b) / 64 = a by omega, show (64 * a + b) % 64 = b by omega, decide_eq_true ha, decide_eq_true (show b < R by omega), decide_eq_true hab]
              rfl
            rw [ea]
            cases ht : twb C P kd R a b with
            | false =>
              rw [if_pos (show bI (!false) = 1 from rfl)]
              refine hq2 (fun hE => ?_)
              have := hE a ha b (by omega) hab c1 c2
              rw [ht] at this
              exact absurd this (by decide)
            | true =>
              rw [if_neg (show ¬ bI (!true) = 1 by decide)]
              exact go (fun _ _ => ht)
          · rw [if_neg (show ¬ nI (tl C P kd two a) = nI (tl C P kd two b) by rw [nI_eq (by omega) (by omega)]; exact c2), if_pos (show (0 : Int32) = 0 from rfl)]
            exact go (fun _ q => absurd q c2)
        · rw [if_neg (show ¬ nI (tl C P kd one a) = nI (tl C P kd one b) by rw [nI_eq (by omega) (by omega)]; exact c1), if_pos (show (0 : Int32) = 0 from rfl)]
          exact go (fun q => absurd q c1)
    exact key (R - (a + 1)) (a + 1) N (by omega) (by omega) (by omega) (fun b' h1 h2 => by omega)
  have outer : ∀ Q : Option Int32 → Prop, (Eno C P kd R one two → Q (some 1)) → (¬ Eno C P kd R one two → Q (some 0)) → Q (D_X12_isEnough N s (nI one) (nI two)) := by
    intro Q hq1 hq2
    unfold D_X12_isEnough
    refine loopQ (S := Unit) (fun n i _ => L_X12_isEnough_2 N s (nI one) (nI two) n (nI i)) R (fun i _ => ∀ a, a < i → ∀ b, b < R → a < b → tl C P kd one a = tl C P kd one b → tl C P kd two a = tl C P kd two b → twb C P kd R a b = true) Q ?_ ?_ N 0 () (Nat.zero_le _) (by omega) (fun a ha => absurd ha (Nat.not_lt_zero a))
    · intro n _ hI
      show Q (L_X12_isEnough_2 N s (nI one) (nI two) (n + 1) (nI R))
      rw [L_X12_isEnough_2, hG.2.2.2.2.2.2.2.1, if_pos (show nI R ≤ nI R by rw [nI_leI (by omega) (by omega)]; omega)]
      exact hq1 hI
    · intro n i _ hi hI ih
      show Q (L_X12_isEnough_2 N s (nI one) (nI two) (n + 1) (nI i))
      rw [L_X12_isEnough_2, hG.2.2.2.2.2.2.2.1, if_neg (show ¬ nI R ≤ nI i by rw [nI_leI (by omega) (by omega)]; omega), nI_1 i]
      refine inner Q _ i hi (fun hh => ih () (fun a ha => ?_)) hq2
      by_cases e : a = i
      · subst e; exact hh
      · exact hI a (by omega)
  exact ⟨fun hE => outer (fun o => o = some 1) (fun _ => rfl) (fun q => absurd hE q), fun hE => outer (fun o => o = some 0) (fun q => absurd q hE) (fun _ => rfl)⟩
def pk3 (x a b c : Int32) : Int32 := if x = 0 then a else if x = 1 then b else c
theorem pk3_M (x a b c : Int32) (s : St) : (if x = 0 then some (a, s) else if x = (1 : Int32) then some (b, s) else some (c, s)) = some (pk3 x a b c, s) := by
  unfold pk3
  by_cases h0 : x = 0
  · rw [if_pos h0, if_pos h0]
  · rw [if_neg h0, if_neg h0]
    by_cases h1 : x = 1
    · rw [if_pos h1, if_pos h1]
    · rw [if_neg h1, if_neg h1]
theorem pk3_1 (x a : Int32) : pk3 x a a a = a := by
  unfold pk3
  split
  · rfl
  · split <;> rfl
theorem find_both {N C P J R kd t : Nat} {σ μ : St} (hG : RGm C P J R σ μ) (hN : 5000 ≤ N) (hk : kd < 5) (h64 : R ≤ 64) (hR : 0 < R) (hM : Mk t σ) (ht : t ≤ 100000) (x : Int32) :
    ∃ τ ν t', D_X4_find N σ kd = some τ ∧ D_X12_partsOf N μ (nI kd) x = some (pk3 x (τ 28 3) (τ 28 4) (τ 28 5), ν) ∧ Kp [28, 29] σ τ ∧ KpM μ ν ∧ Mk t' τ ∧ t' ≤ t + 5000 := by
  obtain ⟨o1, o2, o3, o4, o5, o6, o7⟩ := hG.1.on hR
  have two_ := hG.1.two hR
  obtain ⟨ν, a1, a2, a3⟩ := layTableM (N := N) hG hN hk h64
  have hGν : RGm C P J R σ ν := hG.move Kp.rfl a3
  have hm : 0 < cntb (apb C P kd R) 4096 := by
    have e : apb C P kd R 1 = true := by
      unfold apb
      have : twb C P kd R 0 1 = false := twb_f (s := 0) hR (apart01 C (by omega) o3 P (by omega) o1 kd hk)
      rw [show 1 / 64 = 0 from rfl, show 1 % 64 = 1 from rfl, this, decide_eq_true hR, decide_eq_true (show 1 < R by omega)]
      rfl
    have := cntb_lt (f := apb C P kd R) (a := 1) (b := 4096) (by omega) e
    omega
  have hle : cntb (apb C P kd R) 4096 ≤ 4096 := cntb_le _ _
  unfold D_X4_find D_X12_partsOf
  rw [sosX hG hN hk, bp_s, a1, bp_s, apartManyM hN a2, bp_s, if_neg (nI_ne0 hm (by omega))]
  -- what is wanted of the two runs
  suffices h : ∃ τ t', L_X4_find_8 N kd (nI (sos (twb C P kd R) R)) N 0 σ = some τ ∧ L_X12_partsOf_24 N x N 0 ν = some (pk3 x (τ 28 3) (τ 28 4) (τ 28 5), ν) ∧ Kp [28, 29] σ τ ∧ Mk t' τ ∧ t' ≤ t + 5000 by
    obtain ⟨τ, t', b1, b2, b3, b4, b5⟩ := h
    exact ⟨τ, ν, t', b1, b2, b3, a3, b4, b5⟩
  have sl1 := sos_le (twb C P kd R) R
  have hGs : ∀ s, Kp [28, 29] σ s → RGm C P J R s ν := fun s hs => by
    obtain ⟨g0, g1, g2, g3, g4, g5, g6, g7, g8, g9⟩ := hGν
    exact ⟨g0, by rw [hs 20 (by decide)]; exact g1, by rw [hs 20 (by decide)]; exact g2, by rw [hs 20 (by decide)]; exact g3, by rw [hs 0 (by decide)]; exact g4, g5, g6, g7, g8, fun q => hs.tab (by decide) (g9 q)⟩
  have hans : ∀ (s : St) (a b c : Int32) (u : Nat), Kp [28, 29] σ s → Mk u s → Kp [28, 29] σ (pt (pt (pt s 28 3 a) 28 4 b) 28 5 c) ∧ Mk u (pt (pt (pt s 28 3 a) 28 4 b) 28 5 c) := fun s a b c u hs hu =>
    ⟨fun k hk => by rw [pt_ne (fun e => hk (by rw [e]; decide)), pt_ne (fun e => hk (by rw [e]; decide)), pt_ne (fun e => hk (by rw [e]; decide))]; exact hs k hk, hu⟩
  -- both compare
  have cmp : ∀ (s : St) (one two u : Nat), one < R → two < R → Kp [28, 29] σ s → Mk u s → u < 1000000 → ∃ (τ : St) (v : Nat), D_X4_partsBy N s kd (nI one) (nI two) = some (nI v, τ) ∧ Kp [28, 29] σ τ ∧ Mk (u + 1) τ ∧ ((nI v = nI (sos (twb C P kd R) R) ∧ D_X12_isEnough N ν (nI one) (nI two) = some 1) ∨ (¬ nI v = nI (sos (twb C P kd R) R) ∧ D_X12_isEnough N ν (nI one) (nI two) = some 0)) := by
    intro s one two u h1 h2 hs hu hu2
    obtain ⟨τ, c1, c2, c3⟩ := partsByX (N := N) (hGs s hs) hN hk h1 h2 hu hu2
    obtain ⟨d1, d2⟩ := isEnoughM (N := N) hGν hN h64 a2 h1 h2 (by omega) (by omega)
    have sl2 := sos_le (prb C P kd one two) R
    refine ⟨τ, _, c1, hs.trans c2, c3, ?_⟩
    rw [nI_eq (by omega) (by omega), eno_iff (by omega) (by omega) h1 h2]
    by_cases e : Eno C P kd R one two
    · exact Or.inl ⟨e, d1 e⟩
    · exact Or.inr ⟨e, d2 e⟩
  have inner : ∀ (d b one n1 n2 u : Nat) (s : St) (k1 : Int32 → St → Option St) (k2 : Int32 → St → Option (Int32 × St)), one < b → b + d = R → d < n1 → d < n2 → Kp [28, 29] σ s → Mk u s → u + d ≤ t + 5000 → (∀ s' u', Kp [28, 29] σ s' → Mk u' s' → u' ≤ u + d → ∃ τ t', k1 (nI (one + 1)) s' = some τ ∧ k2 (nI (one + 1)) ν = some (pk3 x (τ 28 3) (τ 28 4) (τ 28 5), ν) ∧ Kp [28, 29] σ τ ∧ Mk t' τ ∧ t' ≤ t + 5000) →
      ∃ τ t', L_X4_find_62 N k1 kd (nI (sos (twb C P kd R) R)) (nI one) n1 (nI b) s = some τ ∧ L_X12_partsOf_81 N k2 x (nI one) n2 (nI b) ν = some (pk3 x (τ 28 3) (τ 28 4) (τ 28 5), ν) ∧ Kp [28, 29] σ τ ∧ Mk t' τ ∧ t' ≤ t + 5000 := by
    intro d
    induction d with
    | zero =>
      intro b one n1 n2 u s k1 k2 hob hb h1 h2 hs hu hut hk
      obtain ⟨n1, rfl⟩ : ∃ q, n1 = q + 1 := ⟨n1 - 1, by omega⟩
      obtain ⟨n2, rfl⟩ : ∃ q, n2 = q + 1 := ⟨n2 - 1, by omega⟩
      rw [L_X4_find_62, L_X12_partsOf_81, (hGs s hs).2.2.2.1, hGν.2.2.2.2.2.2.2.1, if_pos (show nI R ≤ nI b by rw [nI_leI (by omega) (by omega)]; omega), if_pos (show nI R ≤ nI b by rw [nI_leI (by omega) (by omega)]; omega), nI_1]
      exact hk s u hs hu (by omega)
    | succ d ih =>
      intro b one n1 n2 u s k1 k2 hob hb h1 h2 hs hu hut hk
      obtain ⟨n1, rfl⟩ : ∃ q, n1 = q + 1 := ⟨n1 - 1, by omega⟩
      obtain ⟨n2, rfl⟩ : ∃ q, n2 = q + 1 := ⟨n2 - 1, by omega⟩
      obtain ⟨τ, v, c1, c2, c3, c4⟩ := cmp s one b u (by omega) (by omega) hs hu (by omega)
      rw [L_X4_find_62, L_X12_partsOf_81, (hGs s hs).2.2.2.1, hGν.2.2.2.2.2.2.2.1, if_neg (show ¬ nI R ≤ nI b by rw [nI_leI (by omega) (by omega)]; omega), if_neg (show ¬ nI R ≤ nI b by rw [nI_leI (by omega) (by omega)]; omega), c1, bs_s, nI_1 b]
      rcases c4 with ⟨e1, e2⟩ | ⟨e1, e2⟩
      · rw [if_pos e1, e2, bp_s, if_neg (show ¬ (1 : Int32) = 0 by decide), pk3_M]
        obtain ⟨z1, z2⟩ := hans τ 2 (nI one) (nI b) (u + 1) c2 c3
        exact ⟨_, u + 1, rfl, rfl, z1, z2, by omega⟩
      · rw [if_neg e1, e2, bp_s, if_pos rfl]
        exact ih (b + 1) one n1 n2 (u + 1) τ k1 k2 (by omega) (by omega) (by omega) (by omega) c2 c3 (by omega) (fun s' u' p1 p2 p3 => hk s' u' p1 p2 (by omega))
  have outer : ∀ (d one n1 n2 u : Nat) (s : St), one + d = R → d < n1 → d < n2 → Kp [28, 29] σ s → Mk u s → u + 64 * d ≤ t + 5000 →
      ∃ τ t', L_X4_find_46 N kd (nI (sos (twb C P kd R) R)) n1 (nI one) s = some τ ∧ L_X12_partsOf_68 N x n2 (nI one) ν = some (pk3 x (τ 28 3) (τ 28 4) (τ 28 5), ν) ∧ Kp [28, 29] σ τ ∧ Mk t' τ ∧ t' ≤ t + 5000 := by
    intro d
    induction d with
    | zero =>
      intro one n1 n2 u s hb h1 h2 hs hu hut
      obtain ⟨n1, rfl⟩ : ∃ q, n1 = q + 1 := ⟨n1 - 1, by omega⟩
      obtain ⟨n2, rfl⟩ : ∃ q, n2 = q + 1 := ⟨n2 - 1, by omega⟩
      rw [L_X4_find_46, L_X12_partsOf_68, (hGs s hs).2.2.2.1, hGν.2.2.2.2.2.2.2.1, if_pos (show nI R ≤ nI one by rw [nI_leI (by omega) (by omega)]; omega), if_pos (show nI R ≤ nI one by rw [nI_leI (by omega) (by omega)]; omega)]
      obtain ⟨z1, z2⟩ := hans s (-1) (-1) (-1) u hs hu
      refine ⟨_, u, rfl, ?_, z1, z2, by omega⟩
      show some (-1, ν) = some (pk3 x (-1) (-1) (-1), ν)
      rw [pk3_1]
    | succ d ih =>
      intro one n1 n2 u s hb h1 h2 hs hu hut
      obtain ⟨n1, rfl⟩ : ∃ q, n1 = q + 1 := ⟨n1 - 1, by omega⟩
      obtain ⟨n2, rfl⟩ : ∃ q, n2 = q + 1 := ⟨n2 - 1, by omega⟩
      rw [L_X4_find_46, L_X12_partsOf_68, (hGs s hs).2.2.2.1, hGν.2.2.2.2.2.2.2.1, if_neg (show ¬ nI R ≤ nI one by rw [nI_leI (by omega) (by omega)]; omega), if_neg (show ¬ nI R ≤ nI one by rw [nI_leI (by omega) (by omega)]; omega), nI_1]
      exact inner d (one + 1) one N N u s _ _ (by omega) (by omega) (by omega) (by omega) hs hu (by omega) (fun s' u' p1 p2 p3 => ih (one + 1) n1 n2 u' s' (by omega) (by omega) (by omega) p1 p2 (by omega))
  have first : ∀ (d one n1 n2 u : Nat) (s : St), one + d = R → d < n1 → d < n2 → Kp [28, 29] σ s → Mk u s → u + d + 64 * 64 ≤ t + 5000 →
      ∃ τ t', L_X4_find_8 N kd (nI (sos (twb C P kd R) R)) n1 (nI one) s = some τ ∧ L_X12_partsOf_24 N x n2 (nI one) ν = some (pk3 x (τ 28 3) (τ 28 4) (τ 28 5), ν) ∧ Kp [28, 29] σ τ ∧ Mk t' τ ∧ t' ≤ t + 5000 := by
    intro d
    induction d with
    | zero =>
      intro one n1 n2 u s hb h1 h2 hs hu hut
      obtain ⟨n1, rfl⟩ : ∃ q, n1 = q + 1 := ⟨n1 - 1, by omega⟩
      obtain ⟨n2, rfl⟩ : ∃ q, n2 = q + 1 := ⟨n2 - 1, by omega⟩
      rw [L_X4_find_8, L_X12_partsOf_24, (hGs s hs).2.2.2.1, hGν.2.2.2.2.2.2.2.1, if_pos (show nI R ≤ nI one by rw [nI_leI (by omega) (by omega)]; omega), if_pos (show nI R ≤ nI one by rw [nI_leI (by omega) (by omega)]; omega)]
      exact outer R 0 N N u s (by omega) (by omega) (by omega) hs hu (by omega)
    | succ d ih =>
      intro one n1 n2 u s hb h1 h2 hs hu hut
      obtain ⟨n1, rfl⟩ : ∃ q, n1 = q + 1 := ⟨n1 - 1, by omega⟩
      obtain ⟨n2, rfl⟩ : ∃ q, n2 = q + 1 := ⟨n2 - 1, by omega⟩
      obtain ⟨τ, v, c1, c2, c3, c4⟩ := cmp s one one u (by omega) (by omega) hs hu (by omega)
      rw [L_X4_find_8, L_X12_partsOf_24, (hGs s hs).2.2.2.1, hGν.2.2.2.2.2.2.2.1, if_neg (show ¬ nI R ≤ nI one by rw [nI_leI (by omega) (by omega)]; omega), if_neg (show ¬ nI R ≤ nI one by rw [nI_leI (by omega) (by omega)]; omega), c1, bs_s, nI_1 one]
      rcases c4 with ⟨e1, e2⟩ | ⟨e1, e2⟩
      · rw [if_pos e1, e2, bp_s, if_neg (show ¬ (1 : Int32) = 0 by decide), pk3_M]
        obtain ⟨z1, z2⟩ := hans τ 1 (nI one) (-1) (u + 1) c2 c3
        exact ⟨_, u + 1, rfl, rfl, z1, z2, by omega⟩
      · rw [if_neg e1, e2, bp_s, if_pos rfl]
        exact ih (one + 1) n1 n2 (u + 1) τ (by omega) (by omega) (by omega) c2 c3 (by omega)
  exact first R 0 N N t σ (by omega) (by omega) (by omega) Kp.rfl hM (by omega)
theorem q_parts {N n : Nat} {σ μ : St} (hN : 5000 ≤ N) (h : RelE n σ μ) (x y : Int32) : Ok2 n (D_X11_parts N σ x y) (D_X12_parts N μ x y) := by
  have h0 := h
  obtain ⟨C, P, J, R, gr, hn, hp, hG, ⟨hid, ns, kd, sr, sj, st, hNow⟩, hI, hT⟩ := h
  have l := hG.1.le
  unfold D_X11_parts D_X12_parts
  rw [isJudge_X hG, isJudge_M hG, bp_s, bp_s, in_0l y (2 : Int64) (n := 3) rfl, bp_s]
  rcases tI_cases x (n := J) (by omega) with t | ⟨j, hj, rfl, t⟩
  · rw [t, if_pos rfl, if_pos rfl]
    exact Ok2.same h0
  · rw [t, if_neg (show ¬ (1 : Int32) = 0 by decide), if_neg (show ¬ (1 : Int32) = 0 by decide)]
    rcases tI_cases y (n := 3) (by omega) with t | ⟨v, hv, rfl, t⟩
    · rw [t, if_pos rfl]
      by_cases c1 : y < 0
      · rw [if_pos c1]; exact Ok2.same h0
      · rw [if_neg c1]
        by_cases c2 : y ≤ 2
        · obtain ⟨q, hq, rfl⟩ := nI_of c1
          rw [tI_nI (by have := (nI_leI (b := 2) hq (by omega)).mp c2; omega) (by omega)] at t
          exact absurd t (by decide)
        · rw [if_neg c2]; exact Ok2.same h0
    · obtain ⟨bd, ld, pd, tr, t1, t2, t3, t4, t5, t6, t7, t8, t9, t10, t11, t12, t13, t14⟩ := hT
      have hR0 := hG.pos (by omega)
      obtain ⟨q1, q2, q3⟩ := hNow.1.2.2.2.2.1 j hj
      rw [t, if_neg (show ¬ (1 : Int32) = 0 by decide), if_neg (nI_pos (by omega)), if_pos (show nI v ≤ (2 : Int32) from nI_le (b := 2) (by omega) (by omega)), hG.2.2.2.1, hG.2.2.2.2.2.2.2.1, t10, t11]
      by_cases c1 : 64 < R
      · rw [if_pos (show (64 : Int32) < nI R from nI_lt (a := 64) c1 (by omega)), if_pos (show (64 : Int32) < nI R from nI_lt (a := 64) c1 (by omega))]
        exact Ok2.same h0
      · rw [if_neg (show ¬ (64 : Int32) < nI R from nI_nlt (a := 64) (b := R) (by omega) (by omega)), if_neg (show ¬ (64 : Int32) < nI R from nI_nlt (a := 64) (b := R) (by omega) (by omega))]
        by_cases c2 : pd = 9
        · subst c2
          rw [if_neg (show ¬ nI 9 < (9 : Int32) by decide), if_pos (show nI 9 = (9 : Int32) from rfl)]
          exact Ok2.same h0
        · rw [if_pos (show nI pd < (9 : Int32) from nI_lt (b := 9) (by omega) (by omega)), if_neg (show ¬ nI pd = (9 : Int32) from fun q => c2 ((nI_eq (b := 9) (by omega) (by omega)).mp q)), nI_1 pd]
          have hG2 : RGm C P J R (pt σ 0 14 (nI (pd + 1))) (pt μ 31 17 (nI (pd + 1))) := hG
          have hN2 : Now J R hid ns kd sr sj st (pt σ 0 14 (nI (pd + 1))) (pt μ 31 17 (nI (pd + 1))) := hNow
          obtain ⟨τ, ν, tr', f1, f2, f3, f4, f5, f6⟩ := find_both (N := N) (t := tr) hG2 hN q1 (by omega) hR0 ⟨t12, t14⟩ (by omega) (nI v)
          rw [judgeAt_X hN2 (by omega) hj, bp_s, f1, bp_s, pk3_M, gi_nI (by omega) (by omega), nI_clamp (by omega), q3, f2, bs_s]
          refine ⟨_, _, _, rfl, rfl, C, P, J, R, gr, by omega, ?_, ?_, ⟨hid, ns, kd, sr, sj, st, ?_⟩, ?_, ⟨bd, ld, pd + 1, tr', t1, t2, by omega, ?_, ?_, ?_, ?_, ?_, ?_, ?_, ?_, f5.1, by omega, f5.2⟩⟩
          · have hp2 : RPg (pt σ 0 14 (nI (pd + 1))) (pt μ 31 17 (nI (pd + 1))) := hp
            unfold RPg at *
            rw [f3 1 (by decide), f3 2 (by decide), f4.1 32 (by decide), f4.2 1 (by decide)]
            exact hp2
          · obtain ⟨g0, g1, g2, g3, g4, g5, g6, g7, g8, g9⟩ := hG2
            exact ⟨g0, by rw [f3 20 (by decide)]; exact g1, by rw [f3 20 (by decide)]; exact g2, by rw [f3 20 (by decide)]; exact g3, by rw [f3 0 (by decide)]; exact g4, by rw [f4.2 3 (by decide)]; exact g5, by rw [f4.2 4 (by decide)]; exact g6, by rw [f4.2 5 (by decide)]; exact g7, by rw [f4.2 6 (by decide)]; exact g8, fun q => f3.tab (by decide) (g9 q)⟩
          · obtain ⟨m1, m2, m3, m4⟩ := hN2
            exact ⟨m1.move (f3 10 (by decide)) (f3 11 (by decide)) (f3 12 (by decide)) (f3 13 (by decide)) (f3 14 (by decide)) (f4.1 33 (by decide)) (f4.1 34 (by decide)), by rw [f4.2 8 (by decide)]; exact m2, by rw [f4.2 7 (by decide)]; exact m3, by rw [f4.2 7 (by decide)]; exact m4⟩
          · have hI2 : RIm J R gr (pt σ 0 14 (nI (pd + 1))) (pt μ 31 17 (nI (pd + 1))) := hI
            unfold RIm at *
            rw [f3 0 (by decide), f4.2 21 (by decide), f4.2 22 (by decide), f4.2 23 (by decide)]
            rcases hI2 with h | ⟨h1, h2, h3, hid, ns, kd, sr, sj, st, h4, h5, h6⟩
            · exact Or.inl h
            · exact Or.inr ⟨h1, h2, h3, hid, ns, kd, sr, sj, st, h4.move (f3 15 (by decide)) (f3 16 (by decide)) (f3 17 (by decide)) (f3 18 (by decide)) (f3 19 (by decide)) (f4.1 39 (by decide)) (f4.1 40 (by decide)), h5, h6⟩
          · rw [f3 0 (by decide)]; exact t4
          · rw [f4.2 9 (by decide)]; exact t5
          · rw [f3 0 (by decide)]; exact t6
          · rw [f4.2 15 (by decide)]; exact t7
          · rw [f3 0 (by decide)]; exact t8
          · rw [f4.2 16 (by decide)]; exact t9
          · rw [f3 0 (by decide)]; rfl
          · rw [f4.2 17 (by decide)]; rfl
