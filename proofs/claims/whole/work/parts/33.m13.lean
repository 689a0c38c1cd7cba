/-! how many are left on an average -/
theorem gcd_step (a b : Nat) : Nat.gcd b (a % b) = Nat.gcd a b := by
  rw [Nat.gcd_comm b, ← Nat.gcd_rec, Nat.gcd_comm]
theorem half_mod {b c : Nat} (hc : 0 < c) (h : c < b) : 2 * (b % c) < b := by
  have h1 := Nat.mod_lt b hc
  have h2 := Nat.div_add_mod b c
  have h3 : 1 ≤ b / c := Nat.div_pos (by omega) hc
  have h4 : c * 1 ≤ c * (b / c) := Nat.mul_le_mul_left c h3
  omega
theorem cdX {N : Nat} : ∀ (k a b c n : Nat), b < 2 ^ k → b < 2 ^ 31 → a < 2 ^ 31 → c + 2 * k < 64 → 2 * k < n → L_X11_commonDivisor_7 N n (nI a) (nI b) (nI c) = J_X11_commonDivisor_34 N (nI (Nat.gcd a b)) := by
  intro k
  induction k with
  | zero =>
    intro a b c n hb _ ha hc hn
    obtain ⟨n, rfl⟩ : ∃ m, n = m + 1 := ⟨n - 1, by omega⟩
    obtain rfl : b = 0 := by simpa using hb
    rw [L_X11_commonDivisor_7, if_neg (show ¬ (64 : Int32) ≤ nI c from nI_ge (b := 64) (by omega) (by omega)), if_pos (show nI 0 = (0 : Int32) from rfl), Nat.gcd_zero_right]
  | succ k ih =>
    intro a b c n hb hb2 ha hc hn
    obtain ⟨n, rfl⟩ : ∃ m, n = m + 1 + 1 := ⟨n - 2, by omega⟩
    rw [L_X11_commonDivisor_7, if_neg (show ¬ (64 : Int32) ≤ nI c from nI_ge (b := 64) (by omega) (by omega))]
    by_cases e : b = 0
    · subst e
      rw [if_pos (show nI 0 = (0 : Int32) from rfl), Nat.gcd_zero_right]
    · have l1 := Nat.mod_lt a (Nat.pos_of_ne_zero e)
      rw [if_neg (nI_ne0 (by omega) (by omega)), gz_nI (by omega) (by omega), pk_rem ha (by omega) (by omega), nI_1, L_X11_commonDivisor_7, if_neg (show ¬ (64 : Int32) ≤ nI (c + 1) from nI_ge (b := 64) (by omega) (by omega)), ← gcd_step a b]
      by_cases e2 : a % b = 0
      · rw [e2, if_pos (show nI 0 = (0 : Int32) from rfl), Nat.gcd_zero_right]
      · have l2 := half_mod (b := b) (c := a % b) (by omega) l1
        have l3 : b % (a % b) < 2 ^ k := by rw [Nat.pow_succ] at hb; omega
        rw [if_neg (nI_ne0 (by omega) (by omega)), gz_nI (by omega) (by omega), pk_rem (by omega) (by omega) (by omega), nI_1, ih (a % b) (b % (a % b)) (c + 1 + 1) n l3 (by omega) (by omega) (by omega) (by omega), gcd_step]
/-- the reference's end -/
def finR (N : Nat) (x3 x4 x5 : Int32) (σ : St) : Option (Int32 × St) := if x3 = 0 then gz x5 (some (x4 / x5, σ)) else bp (D_X12_fitMany N σ) (fun r9 => gz x5 (some (r9 / x5, σ)))
theorem cdM {N : Nat} (x3 x4 : Int32) (σ : St) : ∀ (m y x n : Nat), y ≤ m → m < n → x < 2 ^ 31 → y < 2 ^ 31 → L_X12_restOf_71 N x3 x4 n (nI x) (nI y) σ = finR N x3 x4 (nI (Nat.gcd x y)) σ := by
  intro m
  induction m with
  | zero =>
    intro y x n hy hn hx _
    obtain ⟨n, rfl⟩ : ∃ k, n = k + 1 := ⟨n - 1, by omega⟩
    obtain rfl : y = 0 := by omega
    rw [L_X12_restOf_71, if_pos (show nI 0 ≤ (0 : Int32) by decide), Nat.gcd_zero_right]
    rfl
  | succ m ih =>
    intro y x n hy hn hx hy2
    obtain ⟨n, rfl⟩ : ∃ k, n = k + 1 := ⟨n - 1, by omega⟩
    rw [L_X12_restOf_71]
    by_cases e : y = 0
    · subst e
      rw [if_pos (show nI 0 ≤ (0 : Int32) by decide), Nat.gcd_zero_right]
      rfl
    · have l1 := Nat.mod_lt x (Nat.pos_of_ne_zero e)
      rw [if_neg (nI_nle (by omega) (by omega)), gz_nI (by omega) (by omega), pk_rem hx (by omega) (by omega), ih (x % y) y n (by omega) (by omega) (by omega) (by omega), gcd_step]
/-- the sum of squares -/
def sq (C P kd sh R : Nat) (f : Nat → Bool) : Nat := sumb (fun t => cn C P kd sh R f t * cn C P kd sh R f t) 31
theorem sq_le {C P kd sh R : Nat} {f : Nat → Bool} (hR : R ≤ 216) : sq C P kd sh R f ≤ 31 * 46656 := by
  have : ∀ n, sumb (fun t => cn C P kd sh R f t * cn C P kd sh R f t) n ≤ n * 46656 := by
    intro n
    induction n with
    | zero => exact Nat.zero_le _
    | succ n ih =>
      rw [sumb]
      have h1 : cn C P kd sh R f n ≤ R := cn_le
      have h2 : cn C P kd sh R f n * cn C P kd sh R f n ≤ 216 * 216 := Nat.mul_le_mul (by omega) (by omega)
      omega
  exact this 31
theorem sumb_pos {g : Nat → Nat} {n t : Nat} (ht : t < n) (h : 0 < g t) : 0 < sumb g n := by
  induction n with
  | zero => omega
  | succ n ih =>
    rw [sumb]
    by_cases e : t = n
    · subst e; omega
    · have := ih (by omega); omega
theorem sq_pos {C P kd sh R : Nat} {f : Nat → Bool} (h0 : 0 < C) (hp : P ≤ 3) (hf : 0 < cntb f R) : 0 < sq C P kd sh R f := by
  obtain ⟨r, h1, h2, h3⟩ := cntb_surj hf
  have t30 := tl_le (C := C) (P := P) (kd := kd) (a := sh) (b := r) h0
  have : 0 < cn C P kd sh R f (tl C P kd sh r) := by
    have := cntb_lt (f := fun q => f q && (tl C P kd sh q == tl C P kd sh r)) h1 (by rw [h2, beq_self_eq_true]; rfl)
    unfold cn; omega
  exact sumb_pos (t := tl C P kd sh r) (by omega) (Nat.mul_pos this this)
theorem sq_zero {C P kd sh R : Nat} {f : Nat → Bool} (hf : cntb f R = 0) : sq C P kd sh R f = 0 := by
  have : ∀ t, cn C P kd sh R f t = 0 := fun t => by
    have := cntb_sub (f := f) (g := fun r => tl C P kd sh r == t) (n := R)
    unfold cn; omega
  unfold sq
  rw [sumb_congr (g := fun _ => 0) (fun t _ => by rw [this t]), sumb_zero]
theorem restM {N C P J R hid ns r j : Nat} {kd sr sj st : Nat → Nat} {σ μ : St} (hG : RGm C P J R σ μ) (hR0 : 0 < R) (hNow : Now J R hid ns kd sr sj st σ μ) (hr : r < R) (hj : j < J) (hN : 5000 ≤ N) (x3 : Int32) :
    ∃ ν, KpM μ ν ∧ FitM R (fitF C P kd sr sj st ns) ν ∧ D_X12_restOf N μ (nI r) (nI j) x3 = (if sq C P (kd j) r R (fitF C P kd sr sj st ns) = 0 then some (x3, ν) else finR N x3 (nI (sq C P (kd j) r R (fitF C P kd sr sj st ns))) (nI (Nat.gcd (sq C P (kd j) r R (fitF C P kd sr sj st ns)) (cntb (fitF C P kd sr sj st ns) R))) ν) := by
  have l := hG.1.le
  obtain ⟨o1, o2, o3, o4, o5, o6, o7⟩ := hG.1.on hR0
  obtain ⟨q1, q2, q3⟩ := hNow.1.2.2.2.2.1 j hj
  obtain ⟨ν, b1, b2, b3⟩ := layFitM (N := N) hG hNow hN
  have hG2 := hG.move (τ := σ) Kp.rfl b3
  have hN2 := hNow.move (τ := σ) Kp.rfl b3
  obtain ⟨ρ, c1, c2, c3, c4⟩ := laySizesM (N := N) hG2 hR0 q1 hr hN b2
  have hG3 := hG2.move (τ := σ) Kp.rfl c4
  have h5 := hG3.2.2.2.2.2.2.2.1
  have cl : cntb (fitF C P kd sr sj st ns) R ≤ R := cntb_le _ _
  have sl := sq_le (C := C) (P := P) (kd := kd j) (sh := r) (R := R) (f := fitF C P kd sr sj st ns) (by omega)
  refine ⟨ρ, b3.trans c4, c3, ?_⟩
  unfold D_X12_restOf
  rw [b1, bp_s, gi_nI (by omega) (by omega), nI_clamp (by omega), (hN2.1.2.2.2.2.1 j hj).2.2, c1, bp_s]
  have e41 : sumb (fun t => cn C P (kd j) r R (fitF C P kd sr sj st ns) t * cn C P (kd j) r R (fitF C P kd sr sj st ns) t) 41 = sq C P (kd j) r R (fitF C P kd sr sj st ns) := sumb_ext (m := 31) (by omega) (fun t ht => by rw [cn_big (by omega) o2 ht])
  refine loopQ (S := Nat) (fun n i s => L_X12_restOf_21 N x3 n (nI s) (nI i) ρ) 41 (fun i s => s = sumb (fun t => cn C P (kd j) r R (fitF C P kd sr sj st ns) t * cn C P (kd j) r R (fitF C P kd sr sj st ns) t) i) (fun o => o = (if sq C P (kd j) r R (fitF C P kd sr sj st ns) = 0 then some (x3, ρ) else finR N x3 (nI (sq C P (kd j) r R (fitF C P kd sr sj st ns))) (nI (Nat.gcd (sq C P (kd j) r R (fitF C P kd sr sj st ns)) (cntb (fitF C P kd sr sj st ns) R))) ρ)) ?_ ?_ N 0 0 (Nat.zero_le _) (by omega) rfl
  · intro n s hI
    show L_X12_restOf_21 N x3 (n + 1) (nI s) (nI 41) ρ = _
    rw [e41] at hI
    rw [L_X12_restOf_21, if_pos (by decide), hI]
    generalize sq C P (kd j) r R (fitF C P kd sr sj st ns) = U at *
    by_cases e : U = 0
    · rw [e, if_pos (show nI 0 = (0 : Int32) from rfl), if_pos rfl]
    · rw [if_neg (nI_ne0 (by omega) (by omega)), if_neg e, fitManyM h5 (by omega) c3 hN, bp_s]
      obtain ⟨m, rfl⟩ : ∃ m, N = m + 1 := ⟨N - 1, by omega⟩
      have hle : cntb (fitF C P kd sr sj st ns) R % U ≤ cntb (fitF C P kd sr sj st ns) R := Nat.mod_le _ _
      rw [L_X12_restOf_71, if_neg (nI_nle (by omega) (by omega)), gz_nI (by omega) (by omega), pk_rem (by omega) (by omega) (by omega), cdM x3 (nI U) ρ 216 _ U m (by omega) (by omega) (by omega) (by omega), gcd_step, Nat.gcd_comm]
  · intro n i s hi hI ih
    show L_X12_restOf_21 N x3 (n + 1) (nI s) (nI i) ρ = _
    rw [L_X12_restOf_21, if_neg (show ¬ (41 : Int32) ≤ nI i from nI_ge (b := 41) hi (by omega)), gi_nI hi (by omega), gi_nI hi (by omega), nI_clamp (by omega), c2 i hi, nI_1, pk_mul, nI_add]
    exact ih _ (by rw [sumb, hI])
theorem q_rest {N n : Nat} {σ μ : St} (hN : 5000 ≤ N) (h : RelE n σ μ) (x y z : Int32) : Ok2 n (D_X11_rest N σ x y z) (D_X12_rest N μ x y z) := by
  have h0 := h
  obtain ⟨C, P, J, R, gr, hn, hp, hG, ⟨hid, ns, kd, sr, sj, st, hNow⟩, hI, hT⟩ := h
  have l := hG.1.le
  unfold D_X11_rest D_X12_rest
  rw [isRow_X hG, isRow_M hG, bp_s, bp_s, isJudge_X hG, isJudge_M hG, bp_s, bp_s, in_0l z (1 : Int64) (n := 2) rfl, bp_s]
  rcases tI_cases x (n := R) (by omega) with t | ⟨r, hr, rfl, t⟩
  · rw [t, if_pos rfl, if_pos rfl]
    exact Ok2.same h0
  · rw [t, if_neg (show ¬ (1 : Int32) = 0 by decide), if_neg (show ¬ (1 : Int32) = 0 by decide)]
    rcases tI_cases y (n := J) (by omega) with t | ⟨j, hj, rfl, t⟩
    · rw [t, if_pos rfl, if_pos rfl]
      exact Ok2.same h0
    · rw [t, if_neg (show ¬ (1 : Int32) = 0 by decide), if_neg (show ¬ (1 : Int32) = 0 by decide)]
      rcases tI_cases z (n := 2) (by omega) with t | ⟨v, hv, rfl, t⟩
      · rw [t, if_pos rfl]
        by_cases c1 : z < 0
        · rw [if_pos c1]; exact Ok2.same h0
        · rw [if_neg c1]
          by_cases c2 : z ≤ 1
          · obtain ⟨q, hq, rfl⟩ := nI_of c1
            rw [tI_nI (by have := (nI_leI (b := 1) hq (by omega)).mp c2; omega) (by omega)] at t
            exact absurd t (by decide)
          · rw [if_neg c2]; exact Ok2.same h0
      · have hR0 : 0 < R := by omega
        obtain ⟨o1, o2, o3, o4, o5, o6, o7⟩ := hG.1.on hR0
        obtain ⟨q1, q2, q3⟩ := hNow.1.2.2.2.2.1 j hj
        obtain ⟨τ, ν, a1, -, -, a4, -, a6, -⟩ := left_both (N := N) hG hR0 hNow hN
        obtain ⟨ρ, m1, m2, m3⟩ := restM (N := N) hG hR0 hNow hr hj hN (nI v)
        have cl : cntb (fitF C P kd sr sj st ns) R ≤ R := cntb_le _ _
        have sl := sq_le (C := C) (P := P) (kd := kd j) (sh := r) (R := R) (f := fitF C P kd sr sj st ns) (by omega)
        have hGx := hG.move a6 (ν := μ) KpM.rfl
        have hNx := hNow.move a6 (ν := μ) KpM.rfl
        have h5 : ρ 31 5 = nI R := (hG.move (τ := σ) Kp.rfl m1).2.2.2.2.2.2.2.1
        rw [t, if_neg (nI_pos (by omega)), if_pos (show nI v ≤ (1 : Int32) from nI_le (b := 1) (by omega) (by omega)), if_neg (show ¬ (1 : Int32) = 0 by decide), a1, bs_s, m3]
        rcases Nat.eq_zero_or_pos (cntb (fitF C P kd sr sj st ns) R) with zz | zz
        · rw [zz, if_pos (show nI 0 = (0 : Int32) from rfl), if_pos (sq_zero zz), bs_s]
          exact Ok2.moved h0 a6 m1
        · have sp := sq_pos (C := C) (P := P) (kd := kd j) (sh := r) (by omega) o2 zz
          obtain ⟨τ2, b1, b2⟩ := squaresX (N := N) (hGx.2.2.2.2.2.2.2.2.2 hR0) o2 o3 o4 o7 q1 hr hN a4
          have e24 : τ2 24 2 = nI (cntb (fitF C P kd sr sj st ns) R) := (a4.kp b2).1
          have gp : 0 < Nat.gcd (sq C P (kd j) r R (fitF C P kd sr sj st ns)) (cntb (fitF C P kd sr sj st ns) R) := Nat.gcd_pos_of_pos_right _ zz
          have gl : Nat.gcd (sq C P (kd j) r R (fitF C P kd sr sj st ns)) (cntb (fitF C P kd sr sj st ns) R) ≤ cntb (fitF C P kd sr sj st ns) R := Nat.gcd_le_right _ zz
          have cd : D_X11_commonDivisor N (nI (sq C P (kd j) r R (fitF C P kd sr sj st ns))) (nI (cntb (fitF C P kd sr sj st ns) R)) = some (nI (Nat.gcd (sq C P (kd j) r R (fitF C P kd sr sj st ns)) (cntb (fitF C P kd sr sj st ns) R))) := by
            unfold D_X11_commonDivisor
            have := cdX (N := N) 8 (sq C P (kd j) r R (fitF C P kd sr sj st ns)) (cntb (fitF C P kd sr sj st ns) R) 0 N (by omega) (by omega) (by omega) (by omega) (by omega)
            rw [show (0 : Int32) = nI 0 from rfl, this]
            unfold J_X11_commonDivisor_34
            rw [if_neg (show ¬ nI (Nat.gcd (sq C P (kd j) r R (fitF C P kd sr sj st ns)) (cntb (fitF C P kd sr sj st ns) R)) < (1 : Int32) from nI_nlt (b := 1) (by omega) (by omega))]
          have b1' : D_X5_squares N τ (kd j) (nI r) = some (nI (sq C P (kd j) r R (fitF C P kd sr sj st ns)), τ2) := b1
          rw [if_neg (nI_ne0 zz (by omega)), if_neg (by omega), judgeAt_X hNx (by omega) hj, bp_s, b1', bs_s, e24, cd, bp_s]
          unfold J_X11_rest_85 finR
          rw [gz_nI gp (by omega), gz_nI gp (by omega), gz_nI gp (by omega), fitManyM h5 (by omega) m2 hN, bp_s, gz_nI gp (by omega)]
          rcases (show v = 0 ∨ v = 1 by omega) with rfl | rfl
          · rw [if_pos (show nI 0 = (0 : Int32) from rfl), if_pos (show nI 0 = (0 : Int32) from rfl), bs_s]
            exact Ok2.moved h0 (a6.trans (b2.mono (by decide))) m1
          · rw [if_neg (show ¬ nI 1 = (0 : Int32) by decide), if_neg (show ¬ nI 1 = (0 : Int32) by decide), bs_s]
            exact Ok2.moved h0 (a6.trans (b2.mono (by decide))) m1
