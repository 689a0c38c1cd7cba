/-! what a judge tells, on the class's side: rows as bits -/
theorem fa_and (a b : Nat) : nI a &&& nI b = nI (a &&& b) := by
  apply Int32.toBitVec_inj.1
  show BitVec.ofNat 32 a &&& BitVec.ofNat 32 b = BitVec.ofNat 32 (a &&& b)
  apply BitVec.eq_of_getLsbD_eq
  intro i hi
  simp [hi]
theorem colX_loop {N C k : Nat} {σ : St} (hC : σ 20 1 = nI C) (h0 : 0 < C) (hc : C < 2 ^ 31) :
    ∀ (d n a : Nat), k + d < 2 ^ 31 → d < n → a < 2 ^ 31 → L_X6_colour_20 N σ (nI k) n (nI a) (nI (k + d)) = some (nI (a / C ^ d % C)) := by
  intro d
  induction d with
  | zero =>
    intro n a hj hn ha
    obtain ⟨n, rfl⟩ : ∃ k, n = k + 1 := ⟨n - 1, by omega⟩
    rw [L_X6_colour_20, hC, if_pos (by rw [nI_leI (by omega) (by omega)]; omega), gz_nI h0 hc, pk_rem ha h0 hc]
    simp
  | succ d ih =>
    intro n a hj hn ha
    obtain ⟨n, rfl⟩ : ∃ k, n = k + 1 := ⟨n - 1, by omega⟩
    rw [L_X6_colour_20, hC, if_neg (by rw [nI_leI (by omega) (by omega)]; omega), gz_nI h0 hc, pk_div ha h0 hc, show k + (d + 1) = (k + d) + 1 by omega, pk_m1, ih n (a / C) (by omega) (by omega) (Nat.lt_of_le_of_lt (Nat.div_le_self _ _) ha), Nat.div_div_eq_div_mul, Nat.pow_succ, Nat.mul_comm]
theorem colX {N C P : Nat} {σ : St} (hP : σ 20 0 = nI P) (hC : σ 20 1 = nI C) (hp : P < 1000) (h0 : 0 < C) (hc : C < 1000) (hN : P < N) {r k : Nat} (hk : k < P) (hr : r < 2 ^ 31) : D_X6_colour N σ (nI r) (nI k) = some (nI (dg C P r k)) := by
  unfold D_X6_colour
  rw [hP, hC, if_pos (by rw [nI_lit1, nI_leI (by omega) (by omega)]; omega), nI_lit1, pk_sub (by omega)]
  have := colX_loop (N := N) (k := k) hC h0 (by omega) (P - 1 - k) N r (by omega) (by omega) hr
  rw [show k + (P - 1 - k) = P - 1 by omega] at this
  exact this
/-- the next bit of a colour's heap -/
def wom (x : Int32) (c : Int32) : Int32 :=
  if x &&& ((1 : Int32) <<< ((c * (3 : Int32)) &&& 31)) = 0 then x ||| ((1 : Int32) <<< ((c * (3 : Int32)) &&& 31))
  else if x &&& (((1 : Int32) <<< ((c * (3 : Int32)) &&& 31)) <<< ((1 : Int32) &&& 31)) = 0 then x ||| (((1 : Int32) <<< ((c * (3 : Int32)) &&& 31)) <<< ((1 : Int32) &&& 31))
  else if x &&& ((((1 : Int32) <<< ((c * (3 : Int32)) &&& 31)) <<< ((1 : Int32) &&& 31)) <<< ((1 : Int32) &&& 31)) = 0 then x ||| ((((1 : Int32) <<< ((c * (3 : Int32)) &&& 31)) <<< ((1 : Int32) &&& 31)) <<< ((1 : Int32) &&& 31))
  else x ||| (((((1 : Int32) <<< ((c * (3 : Int32)) &&& 31)) <<< ((1 : Int32) &&& 31)) <<< ((1 : Int32) &&& 31)) <<< ((1 : Int32) &&& 31))
theorem wom_eq {N : Nat} (hN : 4 ≤ N) (x c : Int32) : D_X6_withOneMore N x c = some (wom x c) := by
  obtain ⟨m, rfl⟩ : ∃ m, N = m + 1 + 1 + 1 + 1 := ⟨N - 4, by omega⟩
  unfold D_X6_withOneMore wom
  rw [L_X6_withOneMore_8, if_neg (show ¬ (3 : Int32) ≤ 0 by decide), L_X6_withOneMore_8, if_neg (show ¬ (3 : Int32) ≤ 0 + 1 by decide), L_X6_withOneMore_8, if_neg (show ¬ (3 : Int32) ≤ 0 + 1 + 1 by decide), L_X6_withOneMore_8, if_pos (show (3 : Int32) ≤ 0 + 1 + 1 + 1 by decide)]
  split
  · rfl
  · split
    · rfl
    · split <;> rfl
def pl3 (f : Nat → Nat) : Nat := f 0 + 64 * (f 1 + 64 * f 2)
def fld (P : Nat) (d : Nat → Nat) : Nat → Nat := fun k => if k < P then 2 ^ (d k) else 0
def h6 (m : Nat → Nat) : Nat := (2 ^ m 0 - 1) + 8 * ((2 ^ m 1 - 1) + 8 * ((2 ^ m 2 - 1) + 8 * ((2 ^ m 3 - 1) + 8 * ((2 ^ m 4 - 1) + 8 * (2 ^ m 5 - 1)))))
theorem lay_b1 : ∀ a, a < 6 → ((0 : Int32) ||| ((1 : Int32) <<< (((nI 0 * (6 : Int32)) + nI a) &&& 31))) = nI (2 ^ a) ∧ wom 0 (nI a) = nI (h6 (fun c => cntb (fun _ => a == c) 1)) := by decide +kernel
theorem lay_b2 : ∀ a, a < 6 → ∀ b, b < 6 → (nI (2 ^ a) ||| ((1 : Int32) <<< (((nI 1 * (6 : Int32)) + nI b) &&& 31))) = nI (2 ^ a + 64 * 2 ^ b) ∧ (((0 : Int32) ||| ((1 : Int32) <<< (((nI 1 * (6 : Int32)) + nI a) &&& 31))) ||| ((1 : Int32) <<< (((nI 0 * (6 : Int32)) + nI b) &&& 31))) = nI (2 ^ b + 64 * 2 ^ a) ∧ wom (nI (h6 (fun c => cntb (fun _ => a == c) 1))) (nI b) = nI (h6 (fun c => (if a = c then 1 else 0) + (if b = c then 1 else 0))) := by decide +kernel
theorem lay_b3 : ∀ a, a < 6 → ∀ b, b < 6 → ∀ d, d < 6 → (nI (2 ^ a + 64 * 2 ^ b) ||| ((1 : Int32) <<< (((nI 2 * (6 : Int32)) + nI d) &&& 31))) = nI (2 ^ a + 64 * (2 ^ b + 64 * 2 ^ d)) ∧ ((((0 : Int32) ||| ((1 : Int32) <<< (((nI 2 * (6 : Int32)) + nI a) &&& 31))) ||| ((1 : Int32) <<< (((nI 1 * (6 : Int32)) + nI b) &&& 31))) ||| ((1 : Int32) <<< (((nI 0 * (6 : Int32)) + nI d) &&& 31))) = nI (2 ^ d + 64 * (2 ^ b + 64 * 2 ^ a)) ∧ wom (nI (h6 (fun c => (if a = c then 1 else 0) + (if b = c then 1 else 0)))) (nI d) = nI (h6 (fun c => (if a = c then 1 else 0) + (if b = c then 1 else 0) + (if d = c then 1 else 0))) := by decide +kernel
/-- bits, counted as the library does -/
def bcI (x0 : Int32) : Int32 := (D_J6_bitCount_0f7a4 x0).getD 0
theorem bcI_eq (x : Int32) : D_J6_bitCount_0f7a4 x = some (bcI x) := rfl
def pw (i : Nat) : Nat := if i = 6 then 0 else 2 ^ i
def sg6 (i : Nat) : Nat := if i = 6 then 0 else 1
theorem bc_pl : ∀ i, i < 7 → ∀ j, j < 7 → ∀ k, k < 7 → bcI (nI (pw i + 64 * (pw j + 64 * pw k))) = nI (sg6 i + sg6 j + sg6 k) := by decide +kernel
def ck6 (i : Nat) : Bool := if i % 4 + i / 4 % 4 + i / 16 % 4 + i / 64 % 4 + i / 256 % 4 + i / 1024 < 4 then bcI (nI ((2 ^ (i % 4) - 1) + 8 * ((2 ^ (i / 4 % 4) - 1) + 8 * ((2 ^ (i / 16 % 4) - 1) + 8 * ((2 ^ (i / 64 % 4) - 1) + 8 * ((2 ^ (i / 256 % 4) - 1) + 8 * (2 ^ (i / 1024) - 1))))))) == nI (i % 4 + i / 4 % 4 + i / 16 % 4 + i / 64 % 4 + i / 256 % 4 + i / 1024) else true
theorem ck6_all : (List.range 4096).all ck6 = true := by decide +kernel
theorem bc_h6 {a b c d e f : Nat} (h : a + b + c + d + e + f < 4) : bcI (nI ((2 ^ a - 1) + 8 * ((2 ^ b - 1) + 8 * ((2 ^ c - 1) + 8 * ((2 ^ d - 1) + 8 * ((2 ^ e - 1) + 8 * (2 ^ f - 1))))))) = nI (a + b + c + d + e + f) := by
  have hk := List.all_eq_true.mp ck6_all (a + 4 * b + 16 * c + 64 * d + 256 * e + 1024 * f) (List.mem_range.mpr (by omega))
  unfold ck6 at hk
  rw [show (a + 4 * b + 16 * c + 64 * d + 256 * e + 1024 * f) % 4 = a by omega, show (a + 4 * b + 16 * c + 64 * d + 256 * e + 1024 * f) / 4 % 4 = b by omega, show (a + 4 * b + 16 * c + 64 * d + 256 * e + 1024 * f) / 16 % 4 = c by omega, show (a + 4 * b + 16 * c + 64 * d + 256 * e + 1024 * f) / 64 % 4 = d by omega, show (a + 4 * b + 16 * c + 64 * d + 256 * e + 1024 * f) / 256 % 4 = e by omega, show (a + 4 * b + 16 * c + 64 * d + 256 * e + 1024 * f) / 1024 = f by omega, if_pos h] at hk
  exact eq_of_beq hk
theorem and_fld {w x y x' y' : Nat} (hx : x < 2 ^ w) (hy : y < 2 ^ w) : (x + 2 ^ w * x') &&& (y + 2 ^ w * y') = (x &&& y) + 2 ^ w * (x' &&& y') := by
  have e1 : ((x + 2 ^ w * x') &&& (y + 2 ^ w * y')) % 2 ^ w = x &&& y := by
    rw [Nat.and_mod_two_pow, Nat.add_mul_mod_self_left, Nat.add_mul_mod_self_left, Nat.mod_eq_of_lt hx, Nat.mod_eq_of_lt hy]
  have e2 : ((x + 2 ^ w * x') &&& (y + 2 ^ w * y')) / 2 ^ w = x' &&& y' := by
    rw [Nat.and_div_two_pow, Nat.add_mul_div_left _ _ (Nat.two_pow_pos w), Nat.add_mul_div_left _ _ (Nat.two_pow_pos w), Nat.div_eq_of_lt hx, Nat.div_eq_of_lt hy, Nat.zero_add, Nat.zero_add]
  have := Nat.mod_add_div ((x + 2 ^ w * x') &&& (y + 2 ^ w * y')) (2 ^ w)
  rw [e1, e2] at this
  exact this.symm
theorem and_pl3 {f g : Nat → Nat} (hf : ∀ k, f k < 64) (hg : ∀ k, g k < 64) : pl3 f &&& pl3 g = pl3 (fun k => f k &&& g k) := by
  unfold pl3
  rw [show (64 : Nat) = 2 ^ 6 from rfl, and_fld (hf 0) (hg 0), and_fld (hf 1) (hg 1)]
theorem and_pw : ∀ a, a < 6 → ∀ b, b < 6 → (2 ^ a &&& 2 ^ b) = pw (if a = b then a else 6) := by decide +kernel
theorem and_mn : ∀ a, a < 4 → ∀ b, b < 4 → ((2 ^ a - 1) &&& (2 ^ b - 1)) = 2 ^ (min a b) - 1 := by decide +kernel
theorem and_h6 {m n : Nat → Nat} (hm : ∀ c, m c < 4) (hn : ∀ c, n c < 4) : h6 m &&& h6 n = h6 (fun c => min (m c) (n c)) := by
  have l : ∀ a, a < 4 → 2 ^ a - 1 < 2 ^ 3 := by decide +kernel
  unfold h6
  rw [show (8 : Nat) = 2 ^ 3 from rfl, and_fld (l _ (hm 0)) (l _ (hn 0)), and_fld (l _ (hm 1)) (l _ (hn 1)), and_fld (l _ (hm 2)) (l _ (hn 2)), and_fld (l _ (hm 3)) (l _ (hn 3)), and_fld (l _ (hm 4)) (l _ (hn 4)), and_mn _ (hm 0) _ (hn 0), and_mn _ (hm 1) _ (hn 1), and_mn _ (hm 2) _ (hn 2), and_mn _ (hm 3) _ (hn 3), and_mn _ (hm 4) _ (hn 4), and_mn _ (hm 5) _ (hn 5)]
/-- the tables of rows are laid -/
def TabX (σ : St) (C P : Nat) : Prop := σ 20 0 = nI P ∧ σ 20 1 = nI C ∧ σ 20 2 = nI (C ^ P) ∧ ∀ r, r < C ^ P → σ 21 r = nI (pl3 (fld P (dg C P r))) ∧ σ 22 r = nI (pl3 (fld P (fun k => dg C P r (P - 1 - k)))) ∧ σ 23 r = nI (h6 (fun c => cnc C P r c P))
theorem fld_lt {P : Nat} {d : Nat → Nat} (hd : ∀ k, d k < 6) (k : Nat) : fld P d k < 64 := by
  unfold fld
  split
  · exact Nat.pow_lt_pow_right (by decide) (hd k)
  · decide
theorem fld_and {P : Nat} {d e : Nat → Nat} (hd : ∀ k, d k < 6) (he : ∀ k, e k < 6) (k : Nat) : (fld P d k &&& fld P e k) = pw (if k < P ∧ d k = e k then d k else 6) := by
  unfold fld
  by_cases h : k < P
  · rw [if_pos h, if_pos h, and_pw _ (hd k) _ (he k)]
    by_cases h2 : d k = e k
    · rw [if_pos h2, if_pos ⟨h, h2⟩]
    · rw [if_neg h2, if_neg (fun q => h2 q.2)]
  · rw [if_neg h, if_neg h, if_neg (fun q => h q.1)]; rfl
/-- how many pegs are the same, by the bits -/
theorem bits_right {P : Nat} (hP : P ≤ 3) {d e : Nat → Nat} (hd : ∀ k, d k < 6) (he : ∀ k, e k < 6) : bcI (nI (pl3 (fld P d)) &&& nI (pl3 (fld P e))) = nI (cntb (fun k => d k == e k) P) := by
  rw [fa_and, and_pl3 (fld_lt hd) (fld_lt he)]
  have l : ∀ k, (if k < P ∧ d k = e k then d k else 6) < 7 := fun k => by
    have := hd k
    split <;> omega
  have sgk : ∀ k, sg6 (if k < P ∧ d k = e k then d k else 6) = if k < P ∧ d k = e k then 1 else 0 := fun k => by
    have := hd k
    by_cases h : k < P ∧ d k = e k
    · rw [if_pos h, if_pos h]; unfold sg6; rw [if_neg (by omega)]
    · rw [if_neg h, if_neg h]; rfl
  show bcI (nI ((fld P d 0 &&& fld P e 0) + 64 * ((fld P d 1 &&& fld P e 1) + 64 * (fld P d 2 &&& fld P e 2)))) = _
  rw [fld_and hd he 0, fld_and hd he 1, fld_and hd he 2, bc_pl _ (l 0) _ (l 1) _ (l 2), sgk 0, sgk 1, sgk 2]
  rcases (show P = 0 ∨ P = 1 ∨ P = 2 ∨ P = 3 by omega) with rfl | rfl | rfl | rfl <;> simp [cntb, beq_iff_eq]
theorem bits_alike {m n : Nat → Nat} (hm : ∀ c, m c < 4) (hn : ∀ c, n c < 4) (hs : min (m 0) (n 0) + min (m 1) (n 1) + min (m 2) (n 2) + min (m 3) (n 3) + min (m 4) (n 4) + min (m 5) (n 5) < 4) : bcI (nI (h6 m) &&& nI (h6 n)) = nI (min (m 0) (n 0) + min (m 1) (n 1) + min (m 2) (n 2) + min (m 3) (n 3) + min (m 4) (n 4) + min (m 5) (n 5)) := by
  rw [fa_and, and_h6 hm hn]
  exact bc_h6 hs
