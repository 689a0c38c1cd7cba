/-! mathematics: runs of loops, numbers -/
theorem gi_nI {α : Type} {i n : Nat} {x : Option α} (h : i < n) (hn : n < 2 ^ 31) : gi (nI i) n x = x := if_neg (vp_in_nI h hn)
theorem gz_nI {α : Type} {c : Nat} {x : Option α} (h0 : 0 < c) (hc : c < 2 ^ 31) : gz (nI c) x = x := if_neg (nI_ne0 h0 hc)
theorem gb_0 {α : Type} {x : Option α} : gb 0 x = x := if_pos (Or.inl rfl)
theorem gb_1 {α : Type} {x : Option α} : gb 1 x = x := if_pos (Or.inr rfl)
theorem bp_s {α β : Type} (a : α) (f : α → Option β) : bp (some a) f = f a := rfl
theorem bs_s {α β γ : Type} (a : α) (b : β) (f : α → β → Option γ) : bs (some (a, b)) f = f a b := rfl
theorem upd_at {f : Nat → Int32} {k : Nat} {x : Int32} : upd f k x k = x := if_pos rfl
theorem upd_ne {f : Nat → Int32} {k j : Nat} {x : Int32} (h : j ≠ k) : upd f k x j = f j := if_neg h
theorem pt_at {σ : St} {k i : Nat} {v : Int32} : pt σ k i v k = upd (σ k) i v := by
  unfold pt
  rw [show Nat.beq k k = true from Nat.beq_refl k]
  rfl
theorem pt_ne {σ : St} {k k' i : Nat} {v : Int32} (h : k' ≠ k) : pt σ k i v k' = σ k' := by
  unfold pt
  rw [show Nat.beq k' k = false from Bool.eq_false_iff.mpr (fun e => h (Nat.eq_of_beq_eq_true e))]
  rfl
/-- a counted loop, with an invariant; P: what is wanted of its answer -/
theorem loopQ {S β : Type} (F : Nat → Nat → S → Option β) (R : Nat) (I : Nat → S → Prop) (P : Option β → Prop)
    (h0 : ∀ n s, I R s → P (F (n + 1) R s))
    (hs : ∀ n i s, i < R → I i s → (∀ s', I (i + 1) s' → P (F n (i + 1) s')) → P (F (n + 1) i s)) :
    ∀ n i s, i ≤ R → R < i + n → I i s → P (F n i s) := by
  intro n
  induction n with
  | zero => intro i s h1 h2; omega
  | succ n ih =>
    intro i s h1 h2 hI
    rcases Nat.lt_or_ge i R with h | h
    · exact hs n i s h hI (fun s' hI' => ih (i + 1) s' h (by omega) hI')
    · obtain rfl : i = R := by omega
      exact h0 n s hI
theorem nI_m3 (a : Nat) : (3 : Int32) * nI a = nI (3 * a) := by rw [← pk_mul]; rfl
theorem nI_p2 (a : Nat) : nI a + (2 : Int32) = nI (a + 2) := by rw [← nI_add]; rfl
theorem nI_p3 (a : Nat) : nI a + (3 : Int32) = nI (a + 3) := by rw [← nI_add]; rfl
theorem nI_z (a : Nat) : nI a + (0 : Int32) = nI a := by rw [show (0 : Int32) = nI 0 from nI_0.symm, nI_add]; rfl
theorem nI_lit0 : (0 : Int32) = nI 0 := rfl
theorem nI_lit1 : (1 : Int32) = nI 1 := rfl
/-- the colour of a peg -/
def dg (C P r k : Nat) : Nat := r / C ^ (P - 1 - k) % C
theorem dg_lt {C P r k : Nat} (hC : 0 < C) : dg C P r k < C := Nat.mod_lt _ hC
theorem pegM_loop {N C P : Nat} {σ : St} (hP : σ 31 3 = nI P) (hC : σ 31 4 = nI C) (hp : P < 2 ^ 31) (h0 : 0 < C) (hc : C < 2 ^ 31) :
    ∀ (d j n a : Nat), j + d = P → d < n → a < 2 ^ 31 → L_X12_peg_7 N σ n (nI a) (nI j) = some (nI (a / C ^ d % C)) := by
  intro d
  induction d with
  | zero =>
    intro j n a hj hn ha
    obtain ⟨n, rfl⟩ : ∃ k, n = k + 1 := ⟨n - 1, by omega⟩
    rw [L_X12_peg_7, hP, hC, if_pos (by rw [nI_leI hp (by omega)]; omega), gz_nI h0 hc, pk_rem ha h0 hc]
    simp
  | succ d ih =>
    intro j n a hj hn ha
    obtain ⟨n, rfl⟩ : ∃ k, n = k + 1 := ⟨n - 1, by omega⟩
    rw [L_X12_peg_7, hP, hC, if_neg (by rw [nI_leI hp (by omega)]; omega), gz_nI h0 hc, pk_div ha h0 hc, nI_1, ih (j + 1) n (a / C) (by omega) (by omega) (Nat.lt_of_le_of_lt (Nat.div_le_self _ _) ha), Nat.div_div_eq_div_mul, Nat.pow_succ, Nat.mul_comm]
theorem pegM {N C P : Nat} {σ : St} (hP : σ 31 3 = nI P) (hC : σ 31 4 = nI C) (hp : P < 2 ^ 31) (h0 : 0 < C) (hc : C < 2 ^ 31) (hN : P < N) {r k : Nat} (hk : k < P) (hr : r < 2 ^ 31) : D_X12_peg N σ (nI r) (nI k) = some (nI (dg C P r k)) := by
  unfold D_X12_peg
  rw [nI_1, pegM_loop hP hC hp h0 hc (P - 1 - k) (k + 1) N r (by omega) (by omega) hr]
  rfl
/-- how many of the first n places have it -/
def cntb (p : Nat → Bool) : Nat → Nat
  | 0 => 0
  | n + 1 => cntb p n + (if p n then 1 else 0)
theorem cntb_le (p : Nat → Bool) (n : Nat) : cntb p n ≤ n := by
  induction n with
  | zero => exact Nat.le_refl 0
  | succ n ih => unfold cntb; split <;> omega
theorem cntb_congr {p q : Nat → Bool} {n : Nat} (h : ∀ k, k < n → p k = q k) : cntb p n = cntb q n := by
  induction n with
  | zero => rfl
  | succ n ih => unfold cntb; rw [ih (fun k hk => h k (by omega)), h n (by omega)]
/-- RIGHT (turned: the shown row from its other end) -/
def rt (C P a b : Nat) (t : Bool) : Nat := cntb (fun k => dg C P a (if t then P - 1 - k else k) == dg C P b k) P
theorem rightM {N C P : Nat} {σ : St} (hP : σ 31 3 = nI P) (hC : σ 31 4 = nI C) (hp : P < 1000) (h0 : 0 < C) (hc : C < 1000) (hN : P < N) {a b : Nat} (ha : a < 2 ^ 31) (hb : b < 2 ^ 31) (t : Bool) : D_X12_right N σ (nI a) (nI b) (if t then 1 else 0) = some (nI (rt C P a b t)) := by
  unfold D_X12_right
  have key := loopQ (S := Nat) (fun n i s => L_X12_right_6 N σ (nI a) (nI b) (if t then 1 else 0) n (nI s) (nI i)) P (fun i s => s = cntb (fun k => dg C P a (if t then P - 1 - k else k) == dg C P b k) i) (fun o => o = some (nI (rt C P a b t))) ?_ ?_ N 0 0 (Nat.zero_le _) (by omega) rfl
  · exact key
  · intro n s hI
    show L_X12_right_6 N σ (nI a) (nI b) _ (n + 1) (nI s) (nI P) = _
    rw [L_X12_right_6, hP, if_pos (by rw [nI_leI (by omega) (by omega)]; omega), hI]
    rfl
  · intro n i s hi hI ih
    show L_X12_right_6 N σ (nI a) (nI b) _ (n + 1) (nI s) (nI i) = _
    rw [L_X12_right_6, hP, if_neg (by rw [nI_leI (by omega) (by omega)]; omega)]
    have e1 : (nI P - (1 : Int32)) - nI i = nI (P - 1 - i) := by
      rw [show (1 : Int32) = nI 1 from rfl, pk_sub (by omega), pk_sub (by omega)]
    have step : ∀ q : Nat, q < P → q = (if t then P - 1 - i else i) → J_X12_right_37 N σ (L_X12_right_6 N σ (nI a) (nI b) (if t then 1 else 0) n) (nI a) (nI b) (if t then 1 else 0) (nI i) (nI s) (nI a) (nI q) = some (nI (rt C P a b t)) := by
      intro q hq eq
      unfold J_X12_right_37
      rw [pegM hP hC (by omega) h0 (by omega) hN hq ha, bp_s, pegM hP hC (by omega) h0 (by omega) hN hi hb, bp_s]
      have l1 : dg C P a q < C := dg_lt h0
      have l2 : dg C P b i < C := dg_lt h0
      by_cases e : dg C P a q = dg C P b i
      · rw [if_pos (by rw [e]), nI_1, nI_1]
        exact ih (s + 1) (by rw [cntb, ← hI]; simp [← eq, e])
      · rw [if_neg (by rw [nI_eq (by omega) (by omega)]; exact e), nI_z, nI_1]
        exact ih s (by rw [cntb, ← hI]; simp [← eq, e])
    cases t with
    | false =>
      rw [if_pos (show (if false = true then (1 : Int32) else 0) = 0 by decide)]
      exact step i hi rfl
    | true =>
      rw [if_neg (by decide), e1]
      exact step (P - 1 - i) (by omega) rfl
