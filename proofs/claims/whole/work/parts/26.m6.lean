/-! the pool -/
theorem cntb_mono {f : Nat → Bool} {a b : Nat} (h : a ≤ b) : cntb f a ≤ cntb f b := by
  induction b with
  | zero => rw [Nat.le_zero.mp h]; exact Nat.le_refl _
  | succ b ih =>
    rcases Nat.lt_or_ge a (b + 1) with q | q
    · have := ih (by omega)
      show _ ≤ cntb f b + _
      omega
    · rw [show a = b + 1 by omega]; exact Nat.le_refl _
theorem cntb_lt {f : Nat → Bool} {a b : Nat} (h : a < b) (hf : f a = true) : cntb f a < cntb f b := by
  have h1 : cntb f (a + 1) = cntb f a + 1 := by rw [cntb, hf]; rfl
  have h2 := cntb_mono (f := f) (a := a + 1) (b := b) h
  omega
theorem cntb_and {f g : Nat → Bool} {a b : Nat} (h : a ≤ b) (e : cntb f a = cntb f b) : cntb (fun r => f r && g r) a = cntb (fun r => f r && g r) b := by
  induction b with
  | zero => rw [Nat.le_zero.mp h]
  | succ b ih =>
    rcases Nat.lt_or_ge a (b + 1) with q | q
    · have h1 := cntb_mono (f := f) (a := a) (b := b) (by omega)
      have h2 : cntb f (b + 1) = cntb f b + (if f b then 1 else 0) := rfl
      have hf : f b = false := by
        cases hb : f b with
        | false => rfl
        | true => rw [hb, if_pos rfl] at h2; omega
      rw [hf] at h2
      have h3 := ih (by omega) (by rw [if_neg (by decide)] at h2; omega)
      rw [h3, cntb, hf]
      rfl
    · rw [show a = b + 1 by omega]
theorem cntb_inj {f : Nat → Bool} {a b : Nat} (ha : f a = true) (hb : f b = true) (e : cntb f a = cntb f b) : a = b := by
  rcases Nat.lt_trichotomy a b with h | h | h
  · have := cntb_lt h ha; omega
  · exact h
  · have := cntb_lt h hb; omega
theorem cntb_surj {f : Nat → Bool} {R i : Nat} (h : i < cntb f R) : ∃ r, r < R ∧ f r = true ∧ cntb f r = i := by
  induction R with
  | zero => exact absurd h (Nat.not_lt_zero i)
  | succ R ih =>
    rw [cntb] at h
    cases hf : f R with
    | false =>
      rw [hf, if_neg (by decide)] at h
      obtain ⟨r, h1, h2, h3⟩ := ih h
      exact ⟨r, by omega, h2, h3⟩
    | true =>
      rw [hf, if_pos rfl] at h
      rcases Nat.lt_or_ge i (cntb f R) with q | q
      · obtain ⟨r, h1, h2, h3⟩ := ih q
        exact ⟨r, by omega, h2, h3⟩
      · exact ⟨R, by omega, hf, by omega⟩
theorem cntb_all (n : Nat) : cntb (fun _ => true) n = n := by
  induction n with
  | zero => rfl
  | succ n ih => rw [cntb, ih]; rfl
theorem cntb_sub {f g : Nat → Bool} {n : Nat} : cntb (fun r => f r && g r) n ≤ cntb f n := by
  induction n with
  | zero => exact Nat.le_refl _
  | succ n ih =>
    rw [cntb, cntb]
    cases f n <;> cases g n <;> simp <;> omega
def bI (b : Bool) : Int32 := if b then 1 else 0
/-- the pool is the rows that f tells -/
def PoolX (R : Nat) (f : Nat → Bool) (σ : St) : Prop := σ 24 2 = nI (cntb f R) ∧ (∀ r, r < R → f r = true → σ 25 (cntb f r) = nI r) ∧ ∀ r, r < R → σ 26 r = bI (f r)
def FitM (R : Nat) (f : Nat → Bool) (μ : St) : Prop := ∀ r, r < R → μ 35 r = bI (f r)
theorem Kp.trans {ks : List Nat} {a b c : St} (h1 : Kp ks a b) (h2 : Kp ks b c) : Kp ks a c := fun k hk => (h2 k hk).trans (h1 k hk)
theorem Kp.rfl {ks : List Nat} {a : St} : Kp ks a a := fun _ _ => Eq.refl _
theorem Kp.mono {ks ls : List Nat} {a b : St} (h : Kp ks a b) (hs : ∀ k ∈ ks, k ∈ ls) : Kp ls a b := fun k hk => h k (fun q => hk (hs k q))
theorem Kp.tab {ks : List Nat} {a b : St} {C P : Nat} (h : Kp ks a b) (hk : 20 ∉ ks ∧ 21 ∉ ks ∧ 22 ∉ ks ∧ 23 ∉ ks) (hT : TabX a C P) : TabX b C P := by
  unfold TabX at *
  rw [h 20 hk.1, h 21 hk.2.1, h 22 hk.2.2.1, h 23 hk.2.2.2]
  exact hT
theorem fillX {N R : Nat} {σ : St} (h : σ 20 2 = nI R) (hR : R ≤ 216) (hN : 300 ≤ N) : ∃ τ, D_X5_fill N σ = some τ ∧ PoolX R (fun _ => true) τ ∧ Kp [24, 25, 26] σ τ := by
  unfold D_X5_fill
  rw [h]
  refine loopQ (S := St) (fun n i s => L_X5_fill_13 N n (nI i) s) R (fun i s => s 24 2 = nI R ∧ (∀ r, r < i → s 25 r = nI r ∧ s 26 r = 1) ∧ Kp [24, 25, 26] σ s) (fun o => ∃ τ, o = some τ ∧ PoolX R (fun _ => true) τ ∧ Kp [24, 25, 26] σ τ) ?_ ?_ N 0 _ (Nat.zero_le _) (by omega) ⟨Eq.refl _, fun r hr => absurd hr (Nat.not_lt_zero r), fun k hk => pt_ne (fun e => hk (by rw [e]; decide))⟩
  · intro n s ⟨i1, i2, i3⟩
    show ∃ τ, L_X5_fill_13 N (n + 1) (nI R) s = some τ ∧ _
    rw [L_X5_fill_13, i1, if_pos (by rw [nI_leI (by omega) (by omega)]; omega)]
    exact ⟨s, Eq.refl _, ⟨by rw [i1, cntb_all], fun r hr _ => by rw [cntb_all]; exact (i2 r hr).1, fun r hr => (i2 r hr).2⟩, i3⟩
  · intro n i s hi ⟨i1, i2, i3⟩ ih
    show ∃ τ, L_X5_fill_13 N (n + 1) (nI i) s = some τ ∧ _
    rw [L_X5_fill_13, i1, if_neg (by rw [nI_leI (by omega) (by omega)]; omega), gi_nI (by omega) (by omega), gi_nI (by omega) (by omega), nI_1, nI_clamp (by omega)]
    refine ih _ ⟨i1, fun r hr => ?_, fun k hk => ?_⟩
    · show upd (s 25) i (nI i) r = nI r ∧ upd (s 26) i 1 r = 1
      by_cases e : r = i
      · subst e; rw [upd_at, upd_at]; exact ⟨Eq.refl _, Eq.refl _⟩
      · rw [upd_ne e, upd_ne e]; exact i2 r (by omega)
    · rw [pt_ne (fun e => hk (by rw [e]; decide)), pt_ne (fun e => hk (by rw [e]; decide))]
      exact i3 k hk
theorem keepX {N C P R kd sh told : Nat} {f : Nat → Bool} {σ : St} (hT : TabX σ C P) (hp : P ≤ 3) (h0 : 2 ≤ C) (hc : C ≤ 6) (hR : R = C ^ P) (hk : kd < 5) (hsh : sh < R) (htd : told < 1000) (hN : 300 ≤ N) (hPl : PoolX R f σ) :
    ∃ τ, D_X5_keep N σ kd (nI sh) (nI told) = some τ ∧ PoolX R (fun r => f r && (tl C P kd sh r == told)) τ ∧ Kp [24, 25, 26] σ τ := by
  have l := pow_le hp hc
  have cR : cntb f R ≤ R := cntb_le _ _
  unfold D_X5_keep
  generalize hg : (fun r => f r && (tl C P kd sh r == told)) = g
  have gle : ∀ n, cntb g n ≤ cntb f n := fun n => by rw [← hg]; exact cntb_sub
  refine loopQ (S := Nat × St) (fun n i s => L_X5_keep_6 N kd (nI sh) (nI told) n (nI s.1) (nI i) s.2) (cntb f R) (fun i s => s.2 24 2 = nI (cntb f R) ∧ TabX s.2 C P ∧ Kp [24, 25, 26] σ s.2 ∧ ∃ b, b ≤ R ∧ cntb f b = i ∧ s.1 = cntb g b ∧ (∀ r, r < R → b ≤ r → f r = true → s.2 25 (cntb f r) = nI r) ∧ (∀ r, r < b → g r = true → s.2 25 (cntb g r) = nI r) ∧ (∀ r, r < b → s.2 26 r = bI (g r)) ∧ (∀ r, r < R → b ≤ r → s.2 26 r = bI (f r))) (fun o => ∃ τ, o = some τ ∧ PoolX R g τ ∧ Kp [24, 25, 26] σ τ) ?_ ?_ N 0 (0, σ) (Nat.zero_le _) (by omega) ⟨hPl.1, hT, Kp.rfl, 0, Nat.zero_le _, Eq.refl _, Eq.refl _, fun r hr _ => hPl.2.1 r hr, fun r hr => absurd hr (Nat.not_lt_zero r), fun r hr => absurd hr (Nat.not_lt_zero r), fun r hr _ => hPl.2.2 r hr⟩
  · intro n s ⟨i1, i2, i3, b, b1, b2, b3, b4, b5, b6, b7⟩
    show ∃ τ, L_X5_keep_6 N kd (nI sh) (nI told) (n + 1) (nI s.1) (nI (cntb f R)) s.2 = some τ ∧ _
    rw [L_X5_keep_6, i1, if_pos (by rw [nI_leI (by omega) (by omega)]; omega)]
    have e1 : cntb g b = cntb g R := by rw [← hg]; exact cntb_and b1 b2
    have nof : ∀ r, b ≤ r → r < R → f r = false := fun r h1 h2 => by
      cases hf : f r with
      | false => rfl
      | true =>
        have := cntb_lt h2 hf
        have := cntb_mono (f := f) h1
        omega
    have gf : ∀ r, f r = false → g r = false := fun r h => by rw [← hg]; show (f r && _) = false; rw [h]; rfl
    refine ⟨_, Eq.refl _, ⟨by show nI s.1 = _; rw [b3, e1], fun r hr hgr => ?_, fun r hr => ?_⟩, fun k hk => ?_⟩
    · show s.2 25 (cntb g r) = nI r
      rcases Nat.lt_or_ge r b with q | q
      · exact b5 r q hgr
      · rw [gf r (nof r q hr)] at hgr; cases hgr
    · show s.2 26 r = bI (g r)
      rcases Nat.lt_or_ge r b with q | q
      · exact b6 r q
      · rw [b7 r hr q, nof r q hr, gf r (nof r q hr)]
    · rw [pt_ne (fun e => hk (by rw [e]; decide))]
      exact i3 k hk
  · intro n i s hi ⟨i1, i2, i3, b, b1, b2, b3, b4, b5, b6, b7⟩ ih
    obtain ⟨r, hr, hfr, hri⟩ := cntb_surj hi
    have hbr : b ≤ r := by
      rcases Nat.lt_or_ge r b with q | q
      · have := cntb_lt q hfr; omega
      · exact q
    have e25 : s.2 25 i = nI r := by rw [← hri]; exact b4 r hr hbr hfr
    have e1 : cntb g b = cntb g r := by rw [← hg]; exact cntb_and hbr (by omega)
    have gr1 : cntb g r ≤ i := by rw [← hri]; exact gle r
    have nof : ∀ q, b ≤ q → q < r → f q = false := fun q h1 h2 => by
      cases hf : f q with
      | false => rfl
      | true =>
        have := cntb_lt h2 hf
        have := cntb_mono (f := f) h1
        omega
    have gf : ∀ q, f q = false → g q = false := fun q h => by rw [← hg]; show (f q && _) = false; rw [h]; rfl
    have grt : g r = (tl C P kd sh r == told) := by rw [← hg]; show (f r && _) = _; rw [hfr]; rfl
    have t30 := tl_le (C := C) (P := P) (kd := kd) (a := sh) (b := r) (by omega)
    show ∃ τ, L_X5_keep_6 N kd (nI sh) (nI told) (n + 1) (nI s.1) (nI i) s.2 = some τ ∧ _
    rw [L_X5_keep_6, i1, if_neg (by rw [nI_leI (by omega) (by omega)]; omega), gi_nI (by omega) (by omega), nI_clamp (by omega), e25, wordX i2 hp h0 hc (by omega) (by omega) hk, bp_s, nI_1, b3, e1]
    by_cases ht : tl C P kd sh r = told
    · have hgr : g r = true := by rw [grt, ht]; exact beq_self_eq_true _
      have g1 : cntb g (r + 1) = cntb g r + 1 := by rw [cntb, hgr]; rfl
      rw [if_pos (by rw [ht]), gi_nI (by omega) (by omega), nI_clamp (by omega), nI_1]
      refine ih (cntb g r + 1, _) ⟨i1, i2, fun k hk => ?_, r + 1, hr, by rw [cntb, hfr, hri]; rfl, g1.symm, fun q h1 h2 h3 => ?_, fun q h1 h2 => ?_, fun q h1 => ?_, fun q h1 h2 => b7 q h1 (by omega)⟩
      · show pt s.2 25 _ _ k = σ k
        rw [pt_ne (fun e => hk (by rw [e]; decide))]
        exact i3 k hk
      · show upd (s.2 25) (cntb g r) (nI r) (cntb f q) = nI q
        have := cntb_lt (f := f) (a := r) (b := q) (by omega) hfr
        rw [upd_ne (by omega)]
        exact b4 q h1 (by omega) h3
      · show upd (s.2 25) (cntb g r) (nI r) (cntb g q) = nI q
        by_cases e : q = r
        · subst e; exact upd_at
        · have q1 : q < r := by omega
          have := cntb_lt q1 h2
          rw [upd_ne (by omega)]
          rcases Nat.lt_or_ge q b with z | z
          · exact b5 q z h2
          · rw [gf q (nof q z q1)] at h2; cases h2
      · show s.2 26 q = bI (g q)
        rcases Nat.lt_or_ge q b with z | z
        · exact b6 q z
        · rw [b7 q (by omega) z]
          by_cases e : q = r
          · subst e; rw [hfr, hgr]
          · rw [nof q z (by omega), gf q (nof q z (by omega))]
    · have hgr : g r = false := by rw [grt]; exact beq_eq_false_iff_ne.mpr ht
      have g1 : cntb g (r + 1) = cntb g r := by rw [cntb, hgr]; rfl
      rw [if_neg (by rw [nI_eq (by omega) (by omega)]; exact ht), gi_nI (by omega) (by omega), nI_clamp (by omega), nI_1]
      refine ih (cntb g r, pt s.2 26 r 0) ⟨i1, i2, fun k hk => ?_, r + 1, hr, by rw [cntb, hfr, hri]; rfl, g1.symm, fun q h1 h2 h3 => b4 q h1 (by omega) h3, fun q h1 h2 => ?_, fun q h1 => ?_, fun q h1 h2 => ?_⟩
      · show pt s.2 26 _ _ k = σ k
        rw [pt_ne (fun e => hk (by rw [e]; decide))]
        exact i3 k hk
      · show s.2 25 (cntb g q) = nI q
        by_cases e : q = r
        · subst e; rw [hgr] at h2; cases h2
        · rcases Nat.lt_or_ge q b with z | z
          · exact b5 q z h2
          · rw [gf q (nof q z (by omega))] at h2; cases h2
      · show upd (s.2 26) r 0 q = bI (g q)
        by_cases e : q = r
        · subst e; rw [upd_at, hgr]; rfl
        · rw [upd_ne e]
          rcases Nat.lt_or_ge q b with z | z
          · exact b6 q z
          · rw [b7 q (by omega) z, nof q z (by omega), gf q (nof q z (by omega))]
      · show upd (s.2 26) r 0 q = bI (f q)
        rw [upd_ne (by omega)]
        exact b7 q h1 (by omega)
