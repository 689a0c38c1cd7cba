/-! games by a seed -/
def nxt (s : Int32) : Int32 := ((((1103515245 : Int64) * s.toInt64) + (12345 : Int64)) &&& (2147483647 : Int64)).toInt32
theorem and31 (x : Int64) : ∃ m, m < 2 ^ 31 ∧ x &&& 2147483647 = lN m := by
  refine ⟨x.toBitVec.toNat % 2 ^ 31, Nat.mod_lt _ (by decide), ?_⟩
  apply Int64.toBitVec_inj.1
  show x.toBitVec &&& BitVec.ofNat 64 2147483647 = BitVec.ofNat 64 (x.toBitVec.toNat % 2 ^ 31)
  apply BitVec.eq_of_toNat_eq
  rw [BitVec.toNat_and, BitVec.toNat_ofNat, BitVec.toNat_ofNat, show 2147483647 % 2 ^ 64 = 2 ^ 31 - 1 from rfl, Nat.and_two_pow_sub_one_eq_mod]
  have := Nat.mod_lt x.toBitVec.toNat (show 0 < 2 ^ 31 by decide)
  rw [Nat.mod_eq_of_lt (a := x.toBitVec.toNat % 2 ^ 31) (by omega)]
theorem nxt_nI (s : Int32) : ∃ k, k < 2 ^ 31 ∧ nxt s = nI k := by
  obtain ⟨m, h1, h2⟩ := and31 (((1103515245 : Int64) * s.toInt64) + (12345 : Int64))
  exact ⟨m, h1, by unfold nxt; rw [h2, lN_i]⟩
/-- what a draw of n tells -/
def dr (s : Int32) (n : Nat) : Nat := (nxt s).toNatClampNeg / 65536 % n
theorem dr_lt {s : Int32} {n : Nat} (h : 0 < n) : dr s n < n := Nat.mod_lt _ h
theorem dr_eq (s : Int32) {n : Nat} (h : 0 < n) (hn : n < 2 ^ 31) : nxt s / (65536 : Int32) - nxt s / (65536 : Int32) / nI n * nI n = nI (dr s n) := by
  obtain ⟨k, h1, h2⟩ := nxt_nI s
  unfold dr
  rw [h2, nI_clamp h1, show nI k / (65536 : Int32) = nI (k / 65536) from pk_div (d := 65536) h1 (by omega) (by omega)]
  exact pk_rem (Nat.lt_of_le_of_lt (Nat.div_le_self _ _) h1) h hn
theorem drawX (σ : St) {n : Nat} (h : 0 < n) (hn : n < 2 ^ 31) : D_X9_draw σ (nI n) = some (nI (dr (σ 30 4) n), pt σ 30 4 (nxt (σ 30 4))) := by
  unfold D_X9_draw
  rw [if_neg (nI_nle h hn), gz_nI h hn]
  have := dr_eq (σ 30 4) h hn
  unfold nxt at this ⊢
  rw [this]
theorem drawM (μ : St) {n : Nat} (h : 0 < n) (hn : n < 2 ^ 31) : D_X12_draw μ (nI n) = some (nI (dr (μ 31 20) n), pt μ 31 20 (nxt (μ 31 20))) := by
  unfold D_X12_draw
  rw [gz_nI h hn]
  have := dr_eq (μ 31 20) h hn
  unfold nxt at this ⊢
  rw [this]
theorem soManM {N R : Nat} {f : Nat → Bool} {μ : St} (hR : R ≤ 216) (hF : FitM R f μ) (hN : 5000 ≤ N) {x : Nat} (hx : x < cntb f R) : ∃ r, r < R ∧ f r = true ∧ cntb f r = x ∧ D_X12_soManieth N μ (nI x) = some (nI r) := by
  have cl : cntb f R ≤ R := cntb_le _ _
  unfold D_X12_soManieth
  refine loopQ (S := Nat) (fun n i s => L_X12_soManieth_4 N μ n (nI s) (nI i)) R (fun i s => cntb f i ≤ x ∧ s = x - cntb f i) (fun o => ∃ r, r < R ∧ f r = true ∧ cntb f r = x ∧ o = some (nI r)) ?_ ?_ N 0 x (Nat.zero_le _) (by omega) ⟨Nat.zero_le _, rfl⟩
  · intro n s hI
    have := hI.1
    omega
  · intro n i s hi hI ih
    obtain ⟨hI1, hI2⟩ := hI
    show ∃ r, _ ∧ _ ∧ _ ∧ L_X12_soManieth_4 N μ (n + 1) (nI s) (nI i) = some (nI r)
    unfold L_X12_soManieth_4 J_X12_soManieth_17
    rw [gi_nI (by omega) (by omega), gi_nI (by omega) (by omega), nI_clamp (by omega), hF i hi, nI_1]
    cases hf : f i with
    | false =>
      rw [show bI false = (0 : Int32) from rfl, if_pos rfl, show nI s - (0 : Int32) = nI s by rw [nI_lit0, pk_sub (Nat.zero_le _)]; rfl]
      exact ih s ⟨by rw [cntb, hf]; simpa using hI1, by rw [cntb, hf]; simpa using hI2⟩
    | true =>
      rw [show bI true = (1 : Int32) from rfl, if_neg (show ¬ (1 : Int32) = 0 by decide)]
      by_cases e : s = 0
      · rw [e, if_pos (show nI 0 ≤ (0 : Int32) by decide)]
        exact ⟨i, hi, hf, by omega, rfl⟩
      · rw [if_neg (nI_nle (by omega) (by omega)), nI_lit1, pk_sub (by omega)]
        exact ih (s - 1) ⟨by rw [cntb, hf]; simp; omega, by rw [cntb, hf]; simp; omega⟩
theorem dropX {N R a : Nat} {f : Nat → Bool} {σ : St} (hR : R ≤ 216) (ha : a < R) (hN : 300 ≤ N) (hPl : PoolX R f σ) :
    ∃ τ, D_X5_drop N σ (nI a) = some τ ∧ PoolX R (fun r => f r && !(r == a)) τ ∧ Kp [24, 25, 26] σ τ := by
  have cR : cntb f R ≤ R := cntb_le _ _
  unfold D_X5_drop
  generalize hg : (fun r => f r && !(r == a)) = g
  have gle : ∀ n, cntb g n ≤ cntb f n := fun n => by rw [← hg]; exact cntb_sub
  refine loopQ (S := Nat × St) (fun n i s => L_X5_drop_4 N (nI a) n (nI s.1) (nI i) s.2) (cntb f R) (fun i s => s.2 24 2 = nI (cntb f R) ∧ s.2 26 = σ 26 ∧ Kp [24, 25, 26] σ s.2 ∧ ∃ b, b ≤ R ∧ cntb f b = i ∧ s.1 = cntb g b ∧ (∀ r, r < R → b ≤ r → f r = true → s.2 25 (cntb f r) = nI r) ∧ (∀ r, r < b → g r = true → s.2 25 (cntb g r) = nI r)) (fun o => ∃ τ, o = some τ ∧ PoolX R g τ ∧ Kp [24, 25, 26] σ τ) ?_ ?_ N 0 (0, σ) (Nat.zero_le _) (by omega) ⟨hPl.1, rfl, Kp.rfl, 0, Nat.zero_le _, rfl, rfl, fun r hr _ => hPl.2.1 r hr, fun r hr => absurd hr (Nat.not_lt_zero r)⟩
  · intro n s ⟨i1, i2, i3, b, b1, b2, b3, b4, b5⟩
    show ∃ τ, L_X5_drop_4 N (nI a) (n + 1) (nI s.1) (nI (cntb f R)) s.2 = some τ ∧ _
    rw [L_X5_drop_4, i1, if_pos (by rw [nI_leI (by omega) (by omega)]; omega), gi_nI (by omega) (by omega), nI_clamp (by omega)]
    have e1 : cntb g b = cntb g R := by rw [← hg]; exact cntb_and b1 b2
    refine ⟨_, rfl, ⟨by show nI s.1 = _; rw [b3, e1], fun r hr hgr => ?_, fun r hr => ?_⟩, fun k hk => ?_⟩
    · show s.2 25 (cntb g r) = nI r
      rcases Nat.lt_or_ge r b with q | q
      · exact b5 r q hgr
      · have hfr : f r = true := by
          rw [← hg] at hgr
          simp at hgr
          exact hgr.1
        have := cntb_lt hr hfr
        have := cntb_mono (f := f) q
        omega
    · show upd (s.2 26) a 0 r = bI (g r)
      rw [i2, ← hg]
      show upd (σ 26) a 0 r = bI (f r && !(r == a))
      by_cases e : r = a
      · subst e; rw [upd_at, beq_self_eq_true]; cases f r <;> rfl
      · rw [upd_ne e, hPl.2.2 r hr, beq_eq_false_iff_ne.mpr e]
        cases f r <;> rfl
    · rw [pt_ne (fun e => hk (by rw [e]; decide)), pt_ne (fun e => hk (by rw [e]; decide))]
      exact i3 k hk
  · intro n i s hi ⟨i1, i2, i3, b, b1, b2, b3, b4, b5⟩ ih
    obtain ⟨r, hr, hfr, hri⟩ := cntb_surj hi
    have hbr : b ≤ r := by
      rcases Nat.lt_or_ge r b with q | q
      · have := cntb_lt q hfr; omega
      · exact q
    have e25 : s.2 25 i = nI r := by rw [← hri]; exact b4 r hr hbr hfr
    have e1 : cntb g b = cntb g r := by rw [← hg]; exact cntb_and hbr (by omega)
    have gr1 : cntb g r ≤ i := by rw [← hri]; exact gle r
    have nof : ∀ q, b ≤ q → q < r → g q = false := fun q h1 h2 => by
      cases hf : f q with
      | false => rw [← hg]; show (f q && _) = false; rw [hf]; rfl
      | true =>
        have := cntb_lt h2 hf
        have := cntb_mono (f := f) h1
        omega
    show ∃ τ, L_X5_drop_4 N (nI a) (n + 1) (nI s.1) (nI i) s.2 = some τ ∧ _
    rw [L_X5_drop_4, i1, if_neg (by rw [nI_leI (by omega) (by omega)]; omega), gi_nI (by omega) (by omega), nI_clamp (by omega), e25, b3, e1]
    by_cases ea : r = a
    · have hgr : g r = false := by rw [← hg]; show (f r && !(r == a)) = false; rw [ea, beq_self_eq_true]; cases f a <;> rfl
      have g1 : cntb g (r + 1) = cntb g r := by rw [cntb, hgr]; rfl
      rw [if_pos (by rw [ea]), nI_1]
      refine ih (cntb g r, s.2) ⟨i1, i2, i3, r + 1, hr, by rw [cntb, hfr, hri]; rfl, g1.symm, fun q h1 h2 h3 => b4 q h1 (by omega) h3, fun q h1 h2 => ?_⟩
      rcases Nat.lt_or_ge q b with z | z
      · exact b5 q z h2
      · by_cases e : q = r
        · subst e; rw [hgr] at h2; cases h2
        · rw [nof q z (by omega)] at h2; cases h2
    · have hgr : g r = true := by rw [← hg]; show (f r && !(r == a)) = true; rw [hfr, beq_eq_false_iff_ne.mpr ea]; rfl
      have g1 : cntb g (r + 1) = cntb g r + 1 := by rw [cntb, hgr]; rfl
      rw [if_neg (by rw [nI_eq (by omega) (by omega)]; exact ea), gi_nI (by omega) (by omega), gi_nI (by omega) (by omega), nI_clamp (by omega), nI_1 (cntb g r), nI_1 i]
      refine ih (cntb g r + 1, pt s.2 25 (cntb g r) (nI r)) ⟨i1, i2, fun k hk => ?_, r + 1, hr, by rw [cntb, hfr, hri]; rfl, g1.symm, fun q h1 h2 h3 => ?_, fun q h1 h2 => ?_⟩
      · show pt s.2 25 _ _ k = σ k
        rw [pt_ne (fun e => hk (by rw [e]; decide))]
        exact i3 k hk
      · show upd (s.2 25) (cntb g r) (nI r) (cntb f q) = nI q
        have := cntb_lt (f := f) (a := r) (b := q) (by omega) hfr
        rw [upd_ne (by omega)]
        exact b4 q h1 (by omega) h3
      · show upd (s.2 25) (cntb g r) (nI r) (cntb g q) = nI q
        by_cases e : q = r
        · subst e; exact upd_at
        · have q1 : q < r := by omega
          have := cntb_lt q1 h2
          rw [upd_ne (by omega)]
          rcases Nat.lt_or_ge q b with z | z
          · exact b5 q z h2
          · rw [nof q z q1] at h2; cases h2
theorem filtM_try {N C P J R kd a t : Nat} {f : Nat → Bool} {σ μ : St} (hG : RGm C P J R σ μ) (hk : kd < 5) (ha : a < R) (ht : t < 1000) (hN : 5000 ≤ N) (hF : FitM R f μ) (kc : Int32 → Int32 → St → Option (Int32 × St)) (x2 x3 : Int32) :
    ∃ ν, FitM R (fun r => (f r && (tl C P kd a r == t)) && !(r == a)) ν ∧ KpM μ ν ∧ ν 31 20 = μ 31 20 ∧ L_X12_tryOne_73 N kc (nI kd) x2 x3 (nI a) (nI t) N 0 μ = kc x3 (nI a) ν := by
  have l := hG.1.le
  refine loopQ (S := St) (fun n i s => L_X12_tryOne_73 N kc (nI kd) x2 x3 (nI a) (nI t) n (nI i) s) R (fun i s => KpM μ s ∧ s 31 20 = μ 31 20 ∧ (∀ r, r < i → s 35 r = bI ((f r && (tl C P kd a r == t)) && !(r == a))) ∧ ∀ r, r < R → i ≤ r → s 35 r = bI (f r)) (fun o => ∃ ν, FitM R (fun r => (f r && (tl C P kd a r == t)) && !(r == a)) ν ∧ KpM μ ν ∧ ν 31 20 = μ 31 20 ∧ o = kc x3 (nI a) ν) ?_ ?_ N 0 μ (Nat.zero_le _) (by omega) ⟨KpM.rfl, rfl, fun r hr => absurd hr (Nat.not_lt_zero r), fun r hr _ => hF r hr⟩
  · intro n s ⟨i1, i1', i2, i3⟩
    have hG2 := hG.move (τ := σ) Kp.rfl i1
    refine ⟨s, i2, i1, i1', ?_⟩
    show L_X12_tryOne_73 N kc (nI kd) x2 x3 (nI a) (nI t) (n + 1) (nI R) s = _
    rw [L_X12_tryOne_73, hG2.2.2.2.2.2.2.2.1, if_pos (by rw [nI_leI (by omega) (by omega)]; omega)]
  · intro n i s hi ⟨i1, i1', i2, i3⟩ ih
    have hG2 := hG.move (τ := σ) Kp.rfl i1
    obtain ⟨-, w2, w3⟩ := tell_both (N := N) hG2 hN ha hi hk
    have nxt_ : ∀ b : Bool, b = ((f i && (tl C P kd a i == t)) && !(i == a)) → KpM μ (pt s 35 i (bI b)) ∧ (pt s 35 i (bI b)) 31 20 = μ 31 20 ∧ (∀ r, r < i + 1 → (pt s 35 i (bI b)) 35 r = bI ((f r && (tl C P kd a r == t)) && !(r == a))) ∧ ∀ r, r < R → i + 1 ≤ r → (pt s 35 i (bI b)) 35 r = bI (f r) := fun b hb => by
      refine ⟨i1.pt (Or.inl rfl), i1', fun r hr => ?_, fun r hr hr2 => ?_⟩
      · show upd (s 35) i (bI b) r = _
        by_cases e : r = i
        · subst e; rw [upd_at, hb]
        · rw [upd_ne e]; exact i2 r (by omega)
      · show upd (s 35) i (bI b) r = _
        rw [upd_ne (by omega)]; exact i3 r hr (by omega)
    show ∃ ν, _ ∧ _ ∧ _ ∧ L_X12_tryOne_73 N kc (nI kd) x2 x3 (nI a) (nI t) (n + 1) (nI i) s = _
    rw [L_X12_tryOne_73, hG2.2.2.2.2.2.2.2.1, if_neg (by rw [nI_leI (by omega) (by omega)]; omega), gi_nI (by omega) (by omega), gi_nI (by omega) (by omega), nI_clamp (by omega), i3 i hi (Nat.le_refl _), w2, bp_s, gi_nI (by omega) (by omega), nI_1]
    cases hf : f i with
    | false =>
      rw [show bI false = (0 : Int32) from rfl, if_neg (show ¬ (0 : Int32) = 1 by decide)]
      exact ih _ (nxt_ false (by rw [hf]; rfl))
    | true =>
      rw [show bI true = (1 : Int32) from rfl, if_pos rfl]
      by_cases ea : i = a
      · rw [if_pos (by rw [ea])]
        exact ih _ (nxt_ false (by rw [hf, ea, beq_self_eq_true]; cases (tl C P kd a a == t) <;> rfl))
      · rw [if_neg (by rw [nI_eq (by omega) (by omega)]; exact ea)]
        by_cases e : tl C P kd a i = t
        · rw [if_pos (by rw [e])]
          exact ih _ (nxt_ true (by rw [hf, e, beq_self_eq_true, beq_eq_false_iff_ne.mpr ea]; rfl))
        · rw [if_neg (by rw [nI_eq (by omega) (by omega)]; exact e)]
          exact ih _ (nxt_ false (by rw [hf, beq_eq_false_iff_ne.mpr e]; rfl))
