/-! parts: how many sorts of rows there are, and by how many words they are told -/
def frs (e : Nat → Nat → Bool) (h : Nat) : Nat → Bool
  | 0 => true
  | i + 1 => frs e h i && !(e i h)
def sos (e : Nat → Nat → Bool) (R : Nat) : Nat := cntb (fun h => frs e h h) R
theorem frs_t {e : Nat → Nat → Bool} {h : Nat} : ∀ {i : Nat}, frs e h i = true ↔ ∀ a, a < i → e a h = false := by
  intro i
  induction i with
  | zero => exact ⟨fun _ a ha => absurd ha (Nat.not_lt_zero a), fun _ => rfl⟩
  | succ i ih =>
    rw [frs, Bool.and_eq_true, ih]
    constructor
    · intro ⟨h1, h2⟩ a ha
      by_cases q : a = i
      · subst q; simpa using h2
      · exact h1 a (by omega)
    · intro hq
      exact ⟨fun a ha => hq a (by omega), by rw [hq i (by omega)]; rfl⟩
theorem frs_f {e : Nat → Nat → Bool} {h i j : Nat} (hij : i ≤ j) (hf : frs e h i = false) : frs e h j = false := by
  cases q : frs e h j with
  | false => rfl
  | true =>
    rw [frs_t] at q
    rw [frs_t.mpr (fun a ha => q a (by omega))] at hf
    exact absurd hf (by decide)
theorem cntb_imp {p q : Nat → Bool} {n : Nat} (h : ∀ k, k < n → p k = true → q k = true) : cntb p n ≤ cntb q n := by
  induction n with
  | zero => exact Nat.le_refl _
  | succ n ih =>
    have h1 := ih (fun k hk => h k (by omega))
    have h2 := h n (by omega)
    rw [cntb, cntb]
    cases hp : p n with
    | false => simp; omega
    | true => rw [h2 hp]; simp; exact h1
theorem cntb_same {p q : Nat → Bool} {n : Nat} (h : ∀ k, k < n → p k = true → q k = true) : cntb p n = cntb q n ↔ ∀ k, k < n → q k = true → p k = true := by
  constructor
  · induction n with
    | zero => intro _ k hk; omega
    | succ n ih =>
      intro e
      have h1 := cntb_imp (p := p) (q := q) (n := n) (fun k hk => h k (by omega))
      have h2 := h n (by omega)
      rw [cntb, cntb] at e
      have e3 : cntb p n = cntb q n ∧ (q n = true → p n = true) := by
        cases hp : p n with
        | false =>
          cases hq : q n with
          | false => rw [hp, hq] at e; exact ⟨by simpa using e, fun x => x⟩
          | true => rw [hp, hq] at e; simp at e; omega
        | true =>
          rw [hp, h2 hp] at e
          exact ⟨by simpa using e, fun _ => rfl⟩
      intro k hk hqk
      by_cases ek : k = n
      · subst ek; exact e3.2 hqk
      · exact ih (fun k hk => h k (by omega)) e3.1 k (by omega) hqk
  · intro hh
    exact Nat.le_antisymm (cntb_imp h) (cntb_imp hh)
theorem sos_eq {e1 e2 : Nat → Nat → Bool} {R : Nat} (h12 : ∀ a b, e1 a b = true → e2 a b = true) (r1 : ∀ a, e1 a a = true) (s1 : ∀ a b, e1 a b = true → e1 b a = true) (t1 : ∀ a b c, e1 a b = true → e1 b c = true → e1 a c = true)
    (s2 : ∀ a b, e2 a b = true → e2 b a = true) (t2 : ∀ a b c, e2 a b = true → e2 b c = true → e2 a c = true) :
    sos e2 R = sos e1 R ↔ ∀ a, a < R → ∀ b, b < R → a < b → e2 a b = true → e1 a b = true := by
  have imp : ∀ k, k < R → frs e2 k k = true → frs e1 k k = true := by
    intro k hk h
    rw [frs_t] at h ⊢
    intro a ha
    cases q : e1 a k with
    | false => rfl
    | true => have := h a ha; rw [h12 a k q] at this; exact absurd this (by decide)
  have least : ∀ m b, b < m → ∃ b0, b0 ≤ b ∧ frs e1 b0 b0 = true ∧ e1 b0 b = true := by
    intro m
    induction m with
    | zero => intro b hb; omega
    | succ m ih =>
      intro b hb
      cases q : frs e1 b b with
      | true => exact ⟨b, Nat.le_refl _, q, r1 b⟩
      | false =>
        have : ∃ a, a < b ∧ e1 a b = true := by
          refine Classical.byContradiction (fun hn => ?_)
          rw [frs_t.mpr (fun a ha => by
            cases z : e1 a b with
            | false => rfl
            | true => exact absurd ⟨a, ha, z⟩ hn)] at q
          exact absurd q (by decide)
        obtain ⟨a, ha, hab⟩ := this
        obtain ⟨b0, x1, x2, x3⟩ := ih a (by omega)
        exact ⟨b0, by omega, x2, t1 _ _ _ x3 hab⟩
  unfold sos
  rw [cntb_same imp]
  constructor
  · intro h a ha b hb hab he
    obtain ⟨a0, x1, x2, x3⟩ := least (a + 1) a (by omega)
    obtain ⟨b0, y1, y2, y3⟩ := least (b + 1) b (by omega)
    have z1 := h a0 (by omega) x2
    have z2 := h b0 (by omega) y2
    have e3 : e2 a0 b0 = true := t2 _ _ _ (h12 _ _ x3) (t2 _ _ _ he (s2 _ _ (h12 _ _ y3)))
    rw [frs_t] at z1 z2
    rcases Nat.lt_trichotomy a0 b0 with q | q | q
    · have := z2 a0 q; rw [e3] at this; exact absurd this (by decide)
    · subst q
      exact t1 _ _ _ (s1 _ _ x3) y3
    · have := z1 b0 q; rw [s2 _ _ e3] at this; exact absurd this (by decide)
  · intro h k hk hq
    rw [frs_t] at hq ⊢
    intro a ha
    cases q : e2 a k with
    | false => rfl
    | true => have := hq a ha; rw [h a (by omega) k hk ha q] at this; exact absurd this (by decide)
/-- the words of two rows together -/
def pr (C P kd one two h : Nat) : Nat := 31 * tl C P kd one h + tl C P kd two h
def prb (C P kd one two a b : Nat) : Bool := pr C P kd one two a == pr C P kd one two b
def Eno (C P kd R one two : Nat) : Prop := ∀ a, a < R → ∀ b, b < R → a < b → tl C P kd one a = tl C P kd one b → tl C P kd two a = tl C P kd two b → twb C P kd R a b = true
theorem twb_iff {C P kd R a b : Nat} : twb C P kd R a b = true ↔ ∀ s, s < R → tl C P kd s a = tl C P kd s b := decide_eq_true_iff
theorem prb_iff {C P kd one two a b : Nat} (h0 : 0 < C) (hp : P ≤ 3) : prb C P kd one two a b = true ↔ tl C P kd one a = tl C P kd one b ∧ tl C P kd two a = tl C P kd two b := by
  have t1 := tl_le (C := C) (P := P) (kd := kd) (a := two) (b := a) h0
  have t2 := tl_le (C := C) (P := P) (kd := kd) (a := two) (b := b) h0
  unfold prb pr
  rw [beq_iff_eq]
  omega
theorem eno_iff {C P kd R one two : Nat} (h0 : 0 < C) (hp : P ≤ 3) (h1 : one < R) (h2 : two < R) : sos (prb C P kd one two) R = sos (twb C P kd R) R ↔ Eno C P kd R one two := by
  rw [sos_eq]
  · constructor
    · intro h a ha b hb hab e1 e2
      exact h a ha b hb hab ((prb_iff h0 hp).mpr ⟨e1, e2⟩)
    · intro h a ha b hb hab e
      obtain ⟨e1, e2⟩ := (prb_iff h0 hp).mp e
      exact h a ha b hb hab e1 e2
  · intro a b h
    rw [twb_iff] at h
    exact (prb_iff h0 hp).mpr ⟨h one h1, h two h2⟩
  · intro a; exact twb_iff.mpr (fun _ _ => rfl)
  · intro a b h; rw [twb_iff] at h ⊢; exact fun s hs => (h s hs).symm
  · intro a b c h1 h2; rw [twb_iff] at h1 h2 ⊢; exact fun s hs => (h1 s hs).trans (h2 s hs)
  · intro a b h; rw [prb_iff h0 hp] at h ⊢; exact ⟨h.1.symm, h.2.symm⟩
  · intro a b c h1 h2; rw [prb_iff h0 hp] at h1 h2 ⊢; exact ⟨h1.1.trans h2.1, h1.2.trans h2.2⟩
theorem apart01 : ∀ C, C < 7 → 2 ≤ C → ∀ P, P < 4 → 1 ≤ P → ∀ kd, kd < 5 → ¬ tl C P kd 0 0 = tl C P kd 0 1 := by decide +kernel
theorem sos_le (e : Nat → Nat → Bool) (R : Nat) : sos e R ≤ R := cntb_le _ _
theorem sosX {N C P J R kd : Nat} {σ μ : St} (hG : RGm C P J R σ μ) (hN : 5000 ≤ N) (hk : kd < 5) : D_X4_sortsOfRows N σ kd = some (nI (sos (twb C P kd R) R)) := by
  have l := hG.1.le
  have inner : ∀ (kc : Int32 → Int32 → Option Int32) (x r : Nat), r < R → L_X4_sortsOfRows_21 N σ kc kd (nI x) (nI r) N 1 0 = kc (nI (x + if frs (twb C P kd R) r r then 1 else 0)) (nI (r + 1)) := by
    intro kc x r hr
    have J : ∀ b : Bool, J_X4_sortsOfRows_59 N σ kc kd (nI x) (nI r) (bI b) = kc (nI (x + if b then 1 else 0)) (nI (r + 1)) := by
      intro b
      unfold J_X4_sortsOfRows_59
      cases b with
      | false => rw [if_pos (show bI false = 0 from rfl), nI_1]; rfl
      | true => rw [if_neg (show ¬ bI true = 0 by decide), nI_1, nI_1]; rfl
    refine loopQ (S := Bool) (fun n i b => L_X4_sortsOfRows_21 N σ kc kd (nI x) (nI r) n (bI b) (nI i)) r (fun i b => b = frs (twb C P kd R) r i) (fun o => o = kc (nI (x + if frs (twb C P kd R) r r then 1 else 0)) (nI (r + 1))) ?_ ?_ N 0 true (Nat.zero_le _) (by omega) rfl
    · intro n b hI
      show L_X4_sortsOfRows_21 N σ kc kd (nI x) (nI r) (n + 1) (bI b) (nI r) = _
      rw [L_X4_sortsOfRows_21, if_pos (show nI r ≤ nI r by rw [nI_leI (by omega) (by omega)]; omega), J, hI]
    · intro n i b hi hI ih
      show L_X4_sortsOfRows_21 N σ kc kd (nI x) (nI r) (n + 1) (bI b) (nI i) = _
      rw [L_X4_sortsOfRows_21, if_neg (show ¬ nI r ≤ nI i by rw [nI_leI (by omega) (by omega)]; omega)]
      cases hb : b with
      | false =>
        rw [if_pos (show bI false = 0 from rfl), J, frs_f (i := i) (j := r) (by omega) (by rw [← hI, hb])]
      | true =>
        rw [if_neg (show ¬ bI true = 0 by decide), twinX hG hN hk (show i < R by omega) hr, bp_s, nI_1 i]
        cases ht : twb C P kd R i r with
        | false =>
          rw [if_pos (show bI false = 0 from rfl)]
          exact ih true (by rw [frs, ← hI, hb, ht]; rfl)
        | true =>
          rw [if_neg (show ¬ bI true = 0 by decide)]
          exact ih false (by rw [frs, ← hI, hb, ht]; rfl)
  unfold D_X4_sortsOfRows
  refine loopQ (S := Nat) (fun n i s => L_X4_sortsOfRows_4 N σ kd n (nI s) (nI i)) R (fun i s => s = cntb (fun h => frs (twb C P kd R) h h) i) (fun o => o = some (nI (sos (twb C P kd R) R))) ?_ ?_ N 0 0 (Nat.zero_le _) (by omega) rfl
  · intro n s hI
    show L_X4_sortsOfRows_4 N σ kd (n + 1) (nI s) (nI R) = _
    rw [L_X4_sortsOfRows_4, hG.2.2.2.1, if_pos (show nI R ≤ nI R by rw [nI_leI (by omega) (by omega)]; omega), hI]
    rfl
  · intro n i s hi hI ih
    show L_X4_sortsOfRows_4 N σ kd (n + 1) (nI s) (nI i) = _
    rw [L_X4_sortsOfRows_4, hG.2.2.2.1, if_neg (show ¬ nI R ≤ nI i by rw [nI_leI (by omega) (by omega)]; omega), inner _ s i hi]
    exact ih _ (by rw [cntb, hI])
/-- no mark is above the trials -/
def Mk (t : Nat) (s : St) : Prop := s 28 2 = nI t ∧ ∀ p, p < 961 → ∃ mk, mk ≤ t ∧ s 29 p = nI mk
theorem partsByX {N C P J R kd one two t : Nat} {σ μ : St} (hG : RGm C P J R σ μ) (hN : 5000 ≤ N) (hk : kd < 5) (h1 : one < R) (h2 : two < R) (hM : Mk t σ) (ht : t < 1000000) :
    ∃ τ, D_X4_partsBy N σ kd (nI one) (nI two) = some (nI (sos (prb C P kd one two) R), τ) ∧ Kp [28, 29] σ τ ∧ Mk (t + 1) τ := by
  have l := hG.1.le
  unfold D_X4_partsBy
  rw [hM.1, nI_1]
  refine loopQ (S := Nat × St) (fun n i q => L_X4_partsBy_16 N kd (nI one) (nI two) n (nI q.1) (nI i) q.2) R (fun i q => q.1 = cntb (fun h => frs (prb C P kd one two) h h) i ∧ Kp [28, 29] σ q.2 ∧ q.2 28 2 = nI (t + 1) ∧ ∀ p, p < 961 → ∃ mk, mk ≤ t + 1 ∧ q.2 29 p = nI mk ∧ (mk = t + 1 ↔ ∃ a, a < i ∧ pr C P kd one two a = p)) (fun o => ∃ τ, o = some (nI (sos (prb C P kd one two) R), τ) ∧ Kp [28, 29] σ τ ∧ Mk (t + 1) τ) ?_ ?_ N 0 (0, pt σ 28 2 (nI (t + 1))) (Nat.zero_le _) (by omega) ⟨rfl, fun k hk => pt_ne (fun e => hk (by rw [e]; decide)), rfl, fun p hp => ?_⟩
  · intro n ⟨q, s⟩ ⟨i1, i2, i3, i4⟩
    have i2 : Kp [28, 29] σ s := i2
    have i3 : s 28 2 = nI (t + 1) := i3
    have i4 : ∀ p, p < 961 → ∃ mk, mk ≤ t + 1 ∧ s 29 p = nI mk ∧ (mk = t + 1 ↔ ∃ a, a < R ∧ pr C P kd one two a = p) := i4
    show ∃ τ, L_X4_partsBy_16 N kd (nI one) (nI two) (n + 1) (nI q) (nI R) s = _ ∧ _
    rw [L_X4_partsBy_16, i2 20 (by decide), hG.2.2.2.1, if_pos (show nI R ≤ nI R by rw [nI_leI (by omega) (by omega)]; omega), show q = sos (prb C P kd one two) R from i1]
    exact ⟨s, rfl, i2, i3, fun p hp => by obtain ⟨mk, m1, m2, -⟩ := i4 p hp; exact ⟨mk, m1, m2⟩⟩
  · intro n i ⟨q, s⟩ hi ⟨i1, i2, i3, i4⟩ ih
    have i1' : q = cntb (fun h => frs (prb C P kd one two) h h) i := i1
    have i2 : Kp [28, 29] σ s := i2
    have i3 : s 28 2 = nI (t + 1) := i3
    have i4 : ∀ p, p < 961 → ∃ mk, mk ≤ t + 1 ∧ s 29 p = nI mk ∧ (mk = t + 1 ↔ ∃ a, a < i ∧ pr C P kd one two a = p) := i4
    have q216 : q ≤ i := by rw [i1']; exact cntb_le _ _
    have hTs : TabX s C P := i2.tab (by decide) (hG.2.2.2.2.2.2.2.2.2 (by omega))
    obtain ⟨o1, o2, o3, o4, o5, o6, o7⟩ := hG.1.on (by omega)
    have t1 := tl_le (C := C) (P := P) (kd := kd) (a := one) (b := i) (by omega)
    have t2 := tl_le (C := C) (P := P) (kd := kd) (a := two) (b := i) (by omega)
    show ∃ τ, L_X4_partsBy_16 N kd (nI one) (nI two) (n + 1) (nI q) (nI i) s = _ ∧ _
    have epr : nI (tl C P kd one i) * (31 : Int32) + nI (tl C P kd two i) = nI (pr C P kd one two i) := by
      rw [show (31 : Int32) = nI 31 from rfl, pk_mul, nI_add, Nat.mul_comm]
      rfl
    have lpr : pr C P kd one two i < 961 := by unfold pr; omega
    obtain ⟨mk, m1, m2, m3⟩ := i4 _ lpr
    rw [L_X4_partsBy_16, i2 20 (by decide), hG.2.2.2.1, if_neg (show ¬ nI R ≤ nI i by rw [nI_leI (by omega) (by omega)]; omega), wordX hTs (by omega) (by omega) (by omega) (by omega) (by omega) hk, bp_s, wordX hTs (by omega) (by omega) (by omega) (by omega) (by omega) hk, bp_s, epr, if_neg (nI_pos (by omega)), if_neg (show ¬ (961 : Int32) ≤ nI (pr C P kd one two i) from nI_ge (b := 961) (by omega) (by omega)), gi_nI lpr (by omega), gi_nI lpr (by omega), nI_clamp (by omega), m2, i3, nI_1 i, nI_1 q]
    by_cases e : mk = t + 1
    · rw [if_pos (by rw [e])]
      obtain ⟨a, a1, a2⟩ := m3.mp e
      have ff : frs (prb C P kd one two) i i = false := by
        cases z : frs (prb C P kd one two) i i with
        | false => rfl
        | true =>
          have := frs_t.mp z a a1
          unfold prb at this
          rw [a2, beq_self_eq_true] at this
          exact absurd this (by decide)
      refine ih (q, s) ⟨by rw [cntb, ff]; exact i1', i2, i3, fun p hp => ?_⟩
      obtain ⟨mk', y1, y2, y3⟩ := i4 p hp
      refine ⟨mk', y1, y2, y3.trans ⟨fun ⟨b, b1, b2⟩ => ⟨b, by omega, b2⟩, fun ⟨b, b1, b2⟩ => ?_⟩⟩
      by_cases eb : b = i
      · subst eb
        exact ⟨a, a1, by rw [a2, b2]⟩
      · exact ⟨b, by omega, b2⟩
    · rw [if_neg (by rw [nI_eq (by omega) (by omega)]; exact e)]
      have ff : frs (prb C P kd one two) i i = true := frs_t.mpr (fun a ha => by
        unfold prb
        exact beq_eq_false_iff_ne.mpr (fun q => e (m3.mpr ⟨a, ha, q⟩)))
      refine ih (q + 1, pt s 29 (pr C P kd one two i) (nI (t + 1))) ⟨by rw [cntb, ff]; show q + 1 = _; rw [i1']; rfl, fun k hk => ?_, i3, fun p hp => ?_⟩
      · show pt s 29 _ _ k = _
        rw [pt_ne (fun e => hk (by rw [e]; decide))]; exact i2 k hk
      · show ∃ mk, mk ≤ t + 1 ∧ upd (s 29) (pr C P kd one two i) (nI (t + 1)) p = nI mk ∧ _
        by_cases ep : p = pr C P kd one two i
        · subst ep
          exact ⟨t + 1, Nat.le_refl _, upd_at, ⟨fun _ => ⟨i, by omega, rfl⟩, fun _ => rfl⟩⟩
        · obtain ⟨mk', y1, y2, y3⟩ := i4 p hp
          refine ⟨mk', y1, by rw [upd_ne ep]; exact y2, y3.trans ⟨fun ⟨b, b1, b2⟩ => ⟨b, by omega, b2⟩, fun ⟨b, b1, b2⟩ => ?_⟩⟩
          by_cases eb : b = i
          · subst eb; exact absurd b2.symm ep
          · exact ⟨b, by omega, b2⟩
  · obtain ⟨mk, m1, m2⟩ := hM.2 p hp
    exact ⟨mk, by omega, m2, ⟨fun e => by omega, fun ⟨a, a1, _⟩ => absurd a1 (Nat.not_lt_zero a)⟩⟩
