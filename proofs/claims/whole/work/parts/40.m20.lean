/-! the page: where its first fault is -/
theorem ltJ {a b : Nat} (ha : a < 2 ^ 31) (hb : b < 2 ^ 31) : nI a < nI b ↔ a < b := by
  constructor
  · intro h
    rcases Nat.lt_or_ge a b with q | q
    · exact q
    · exact absurd h (nI_nlt q ha)
  · intro h
    exact nI_lt h hb
/-- the place of the ';' behind the kinds, ahead of b; 0 for none -/
def ke (pg : Nat → Nat) : Nat → Nat
  | 0 => 0
  | b + 1 => if ke pg b = 0 then (if 3 ≤ b ∧ pg b = 59 then b else 0) else ke pg b
theorem ke_val {pg : Nat → Nat} : ∀ {b : Nat}, ¬ ke pg b = 0 → 3 ≤ ke pg b ∧ ke pg b < b ∧ pg (ke pg b) = 59 ∧ ke pg (ke pg b) = 0 := by
  intro b
  induction b with
  | zero => intro h; exact absurd rfl h
  | succ b ih =>
    intro h
    rw [ke] at h ⊢
    by_cases e : ke pg b = 0
    · rw [if_pos e] at h ⊢
      by_cases c : 3 ≤ b ∧ pg b = 59
      · rw [if_pos c]; exact ⟨c.1, by omega, c.2, e⟩
      · rw [if_neg c] at h; exact absurd rfl h
    · rw [if_neg e]
      obtain ⟨h1, h2, h3, h4⟩ := ih e
      exact ⟨h1, by omega, h3, h4⟩
theorem ke_stay {pg : Nat → Nat} {i : Nat} (h : ¬ ke pg i = 0) : ∀ {b : Nat}, i ≤ b → ke pg b = ke pg i := by
  intro b
  induction b with
  | zero => intro q; rw [show i = 0 by omega]
  | succ b ih =>
    intro q
    by_cases e : i = b + 1
    · rw [e]
    · have := ih (by omega)
      rw [ke, if_neg (by rw [this]; exact h), this]
theorem ke_0 {pg : Nat → Nat} {i b : Nat} (h : ke pg b = 0) (hi : i ≤ b) : ke pg i = 0 := by
  by_cases e : ke pg i = 0
  · exact e
  · rw [ke_stay e hi] at h; exact absurd h e
theorem ke_3 {pg : Nat → Nat} {b : Nat} (h : b ≤ 3) : ke pg b = 0 := by
  by_cases e : ke pg b = 0
  · exact e
  · obtain ⟨h1, h2, -⟩ := ke_val e
    omega
theorem kindsEndX {N np : Nat} {pg : Nat → Nat} {σ : St} (hp : ∀ j, j < np → σ 2 j = nI (pg j) ∧ 1 ≤ pg j ∧ pg j ≤ 126) (hnp : np ≤ 12) (hN : 5000 ≤ N) {b : Nat} (hb : b ≤ np) : D_X3_kindsEnd N σ (nI b) = some (if ke pg b = 0 then -1 else nI (ke pg b)) := by
  unfold D_X3_kindsEnd
  by_cases c : b ≤ 3
  · obtain ⟨m, rfl⟩ : ∃ m, N = m + 1 := ⟨N - 1, by omega⟩
    rw [L_X3_kindsEnd_2, if_pos (show nI b ≤ (3 : Int32) from nI_le (b := 3) c (by omega)), if_pos (ke_3 c)]
  · refine loopQ (S := Unit) (fun n i _ => L_X3_kindsEnd_2 N σ (nI b) n (nI i)) b (fun i _ => 3 ≤ i ∧ ke pg i = 0) (fun o => o = some (if ke pg b = 0 then -1 else nI (ke pg b))) ?_ ?_ N 3 () (by omega) (by omega) ⟨Nat.le_refl _, ke_3 (Nat.le_refl _)⟩
    · intro n _ ⟨_, hI⟩
      show L_X3_kindsEnd_2 N σ (nI b) (n + 1) (nI b) = _
      rw [L_X3_kindsEnd_2, if_pos (show nI b ≤ nI b by rw [nI_leI (by omega) (by omega)]; omega), if_pos hI]
    · intro n i _ hi ⟨h3, hI⟩ ih
      obtain ⟨p1, p2, p3⟩ := hp i (by omega)
      show L_X3_kindsEnd_2 N σ (nI b) (n + 1) (nI i) = _
      rw [L_X3_kindsEnd_2, if_neg (show ¬ nI b ≤ nI i by rw [nI_leI (by omega) (by omega)]; omega), gi_nI (by omega) (by omega), nI_clamp (by omega), p1, nI_1 i]
      by_cases e : pg i = 59
      · have k1 : ke pg (i + 1) = i := by rw [ke, if_pos hI, if_pos ⟨h3, e⟩]
        rw [if_pos (show nI (pg i) = (59 : Int32) by rw [e]; rfl), ke_stay (i := i + 1) (by rw [k1]; omega) (by omega), k1, if_neg (by omega)]
      · rw [if_neg (show ¬ nI (pg i) = (59 : Int32) from fun q => e ((nI_eq (b := 59) (by omega) (by omega)).mp q))]
        exact ih () ⟨by omega, by rw [ke, if_pos hI, if_neg (fun q => e q.2)]⟩
/-- which kind a letter is; 5 for none -/
def kn (c : Nat) : Nat := if c = 106 then 0 else if c = 115 then 1 else if c = 116 then 2 else if c = 119 then 3 else if c = 99 then 4 else 5
theorem kn_le (c : Nat) : kn c ≤ 5 := by
  unfold kn
  repeat' split
  all_goals omega
def knI (c : Nat) : Int32 := if kn c < 5 then nI (kn c) else -1
theorem kindByM : ∀ c, c < 127 → D_X12_kindBy (nI c) = some (knI c) := by decide +kernel
theorem knI_neg {c : Nat} : knI c < 0 ↔ ¬ kn c < 5 := by
  unfold knI
  by_cases h : kn c < 5
  · rw [if_pos h]
    exact ⟨fun q => absurd q (nI_pos (by omega)), fun q => absurd h q⟩
  · rw [if_neg h]
    exact ⟨fun _ => h, fun _ => by decide⟩
theorem knI_m1 {c : Nat} : knI c = -1 ↔ ¬ kn c < 5 := by
  unfold knI
  by_cases h : kn c < 5
  · rw [if_pos h]
    refine ⟨fun q => ?_, fun q => absurd h q⟩
    have := nI_pos (n := kn c) (by omega)
    rw [q] at this
    exact absurd this (by decide)
  · rw [if_neg h]
    exact ⟨fun _ => h, fun _ => rfl⟩
theorem ix_step {N : Nat} {σ : St} {x : Int32} {i n : Nat} (hi : i < 5) : L_J1_indexOfChar_4cfef_7 N σ 5 x (n + 1) (nI i) = if bt5 (nI i) = x then some (nI i) else L_J1_indexOfChar_4cfef_7 N σ 5 x n (nI (i + 1)) := by
  rw [L_J1_indexOfChar_4cfef_7, if_neg (show ¬ (5 : Int32) ≤ nI i from nI_ge (b := 5) (by omega) (by omega)), gi_nI (by omega) (by omega), nI_1]
theorem ix_all : ∀ c, c < 127 → (if bt5 (nI 0) = nI c then some (nI 0) else if bt5 (nI 1) = nI c then some (nI 1) else if bt5 (nI 2) = nI c then some (nI 2) else if bt5 (nI 3) = nI c then some (nI 3) else if bt5 (nI 4) = nI c then some (nI 4) else some (-1 : Int32)) = some (knI c) ∧ ((nI c).toUInt32 % 65536).toInt32 = nI c ∧ (nI c).toInt8.toInt32 = nI c ∧ ¬ (nI c) < 0 ∧ ¬ (255 : Int32) < nI c := by decide +kernel
theorem indexX {N : Nat} {σ : St} (hN : 5000 ≤ N) {c : Nat} (hc : c < 127) : D_J0_indexOf_0f7a4 N σ (((nI c).toUInt32 % 65536).toInt32) = some (knI c) := by
  obtain ⟨h1, h2, h3, h4, h5⟩ := ix_all c hc
  obtain ⟨m, rfl⟩ : ∃ m, N = m + 1 + 1 + 1 + 1 + 1 + 1 := ⟨N - 6, by omega⟩
  rw [h2]
  unfold D_J0_indexOf_0f7a4 D_J0_indexOf_7cf53 D_J0_isLatin1_aae02 D_J0_length_8abf5 D_J0_coder_7d493 D_J1_indexOf_4cfef D_J1_canEncode_9a6ad D_J1_indexOfChar_4cfef
  rw [if_neg (show ¬ (1 : Int32) = 0 by decide), if_pos (show (0 : Int32) = 0 from rfl), bp_s, if_neg (show ¬ (1 : Int32) = 0 by decide), if_neg (show ¬ (1 : Int32) = 0 by decide), bp_s, bp_s, if_neg h4, if_neg h5, bp_s, if_neg (show ¬ (1 : Int32) = 0 by decide), if_neg (show ¬ (0 : Int32) < 0 by decide), show ((5 : Int32) >>> ((0 : Int32) &&& 31)) = 5 by decide, if_neg (show ¬ (5 : Int32) < 5 by decide), if_pos (show (0 : Int32) < 5 by decide), h3, show (0 : Int32) = nI 0 from rfl, ix_step (by omega), ix_step (by omega), ix_step (by omega), ix_step (by omega), ix_step (by omega), L_J1_indexOfChar_4cfef_7, if_pos (show (5 : Int32) ≤ nI (0 + 1 + 1 + 1 + 1 + 1) by decide), h1]
  rfl
/-- whether a letter may stand, behind such as may -/
def ms (pg : Nat → Nat) (i : Nat) : Bool :=
  if i = 0 then decide (49 ≤ pg 0 ∧ pg 0 ≤ 51) else if i = 1 then decide (50 ≤ pg 1 ∧ pg 1 ≤ 54) else if i = 2 then decide (pg 2 = 59) else
  if ke pg i = 0 then (if pg i = 59 then decide (3 < i) else decide (i < 6 ∧ kn (pg i) < 5)) else decide (i ≤ ke pg i + (pg 0 - 48) ∧ 97 ≤ pg i ∧ pg i < 97 + (pg 1 - 48))
theorem btw_X {c lo hi : Nat} (hc : c < 1000) (hl : lo < 1000) (hh : hi < 1000) : (if nI c < nI lo then some (0 : Int32) else if nI hi < nI c then some 0 else some 1) = some (bI (decide (lo ≤ c ∧ c ≤ hi))) := by
  by_cases h1 : c < lo
  · rw [if_pos (nI_lt h1 (by omega)), decide_eq_false (by omega)]; rfl
  · rw [if_neg (nI_nlt (by omega) (by omega))]
    by_cases h2 : hi < c
    · rw [if_pos (nI_lt h2 (by omega)), decide_eq_false (by omega)]; rfl
    · rw [if_neg (nI_nlt (by omega) (by omega)), decide_eq_true (by omega)]; rfl
theorem btw_M {c lo hi : Nat} (hc : c < 1000) (hl : lo < 1000) (hh : hi < 1000) {y z : Int64} (hy : y.toInt = (lo : Int)) (hz : z.toInt = (hi : Int)) : D_X12_in (nI c).toInt64 y z = some (bI (decide (lo ≤ c ∧ c ≤ hi))) := by
  rw [in_eq, Int32.toInt_toInt64, nI_toInt (by omega), hy, hz]
  by_cases h : lo ≤ c ∧ c ≤ hi
  · rw [decide_eq_true h, if_pos (by omega)]; rfl
  · rw [decide_eq_false h, if_neg (by omega)]; rfl
theorem gb_bI {α : Type} {b : Bool} {y : Option α} : gb (bI b) y = y := by
  cases b
  · exact gb_0
  · exact gb_1
theorem mayStandX {N np : Nat} {pg : Nat → Nat} {σ : St} (hp : ∀ j, j < np → σ 2 j = nI (pg j) ∧ 1 ≤ pg j ∧ pg j ≤ 126) (hnp : np ≤ 12) (hN : 5000 ≤ N) {i : Nat} (hi : i < np) (hs : ∀ k, k < i → ms pg k = true) : D_X3_mayStand N σ (nI i) = some (bI (ms pg i)) := by
  obtain ⟨p1, p2, p3⟩ := hp i hi
  unfold D_X3_mayStand
  rw [gi_nI (by omega) (by omega), nI_clamp (by omega), p1]
  unfold ms
  by_cases c0 : i = 0
  · subst c0
    rw [if_pos (show nI 0 = (0 : Int32) from rfl), if_pos rfl]
    exact btw_X (lo := 49) (hi := 51) (by omega) (by omega) (by omega)
  · rw [if_neg (nI_ne0 (by omega) (by omega)), if_neg c0]
    by_cases c1 : i = 1
    · subst c1
      rw [if_pos (show nI 1 = (1 : Int32) from rfl), if_pos rfl]
      exact btw_X (lo := 50) (hi := 54) (by omega) (by omega) (by omega)
    · rw [if_neg (show ¬ nI i = (1 : Int32) from fun q => c1 ((nI_eq (b := 1) (by omega) (by omega)).mp q)), if_neg c1]
      by_cases c2 : i = 2
      · subst c2
        rw [if_pos (show nI 2 = (2 : Int32) from rfl), if_pos rfl]
        by_cases e : pg 2 = 59
        · rw [if_pos (show nI (pg 2) = (59 : Int32) by rw [e]; rfl), decide_eq_true e]; rfl
        · rw [if_neg (show ¬ nI (pg 2) = (59 : Int32) from fun q => e ((nI_eq (b := 59) (by omega) (by omega)).mp q)), decide_eq_false e]; rfl
      · rw [if_neg (show ¬ nI i = (2 : Int32) from fun q => c2 ((nI_eq (b := 2) (by omega) (by omega)).mp q)), if_neg c2, kindsEndX hp hnp hN (by omega), bp_s]
        have q0 : 49 ≤ pg 0 ∧ pg 0 ≤ 51 := by
          have := hs 0 (by omega)
          unfold ms at this
          rw [if_pos rfl] at this
          exact of_decide_eq_true this
        have q1 : 50 ≤ pg 1 ∧ pg 1 ≤ 54 := by
          have := hs 1 (by omega)
          unfold ms at this
          rw [if_neg (by decide), if_pos rfl] at this
          exact of_decide_eq_true this
        by_cases k0 : ke pg i = 0
        · rw [if_pos k0, if_pos k0, if_pos (show (-1 : Int32) = -1 from rfl)]
          by_cases e : pg i = 59
          · rw [if_pos (show nI (pg i) = (59 : Int32) by rw [e]; rfl), if_pos e]
            by_cases c : 3 < i
            · rw [if_neg (show ¬ nI i ≤ (3 : Int32) from nI_ge (a := 3) (b := i) (by omega) (by omega)), decide_eq_true c]; rfl
            · rw [if_pos (show nI i ≤ (3 : Int32) from nI_le (b := 3) (by omega) (by omega)), decide_eq_false c]; rfl
          · rw [if_neg (show ¬ nI (pg i) = (59 : Int32) from fun q => e ((nI_eq (b := 59) (by omega) (by omega)).mp q)), if_neg e, indexX hN (by omega), bp_s]
            by_cases c : i < 6
            · rw [if_neg (show ¬ (6 : Int32) ≤ nI i from nI_ge (b := 6) (by omega) (by omega))]
              by_cases kq : kn (pg i) < 5
              · rw [if_neg (fun q => knI_neg.mp q kq), decide_eq_true ⟨c, kq⟩]; rfl
              · rw [if_pos (knI_neg.mpr kq), decide_eq_false (fun q => kq q.2)]; rfl
            · rw [if_pos (show (6 : Int32) ≤ nI i from nI_le (a := 6) (by omega) (by omega)), decide_eq_false (fun q => c q.1)]; rfl
        · obtain ⟨v1, v2, -⟩ := ke_val k0
          have hm1 : ¬ nI (ke pg i) = (-1 : Int32) := fun q => by
            have := nI_pos (n := ke pg i) (by omega)
            rw [q] at this
            exact absurd this (by decide)
          unfold D_X3_pegs D_X3_colours
          rw [if_neg k0, if_neg k0, if_neg hm1, show (0 : Int32) = nI 0 from rfl, show (1 : Int32) = nI 1 from rfl, gi_nI (i := 0) (by omega) (by omega), gi_nI (i := 1) (by omega) (by omega), nI_clamp (by omega), nI_clamp (by omega), bp_s, bp_s, (hp 0 (by omega)).1, (hp 1 (by omega)).1, show (48 : Int32) = nI 48 from rfl, show (97 : Int32) = nI 97 from rfl, pk_sub (by omega), pk_sub (by omega), nI_add, nI_add]
          by_cases a1 : ke pg i + (pg 0 - 48) < i
          · rw [if_pos (nI_lt a1 (by omega)), decide_eq_false (by omega)]; rfl
          · rw [if_neg (nI_nlt (by omega) (by omega))]
            by_cases a2 : pg i < 97
            · rw [if_pos (nI_lt a2 (by omega)), decide_eq_false (by omega)]; rfl
            · rw [if_neg (nI_nlt (by omega) (by omega))]
              by_cases a3 : 97 + (pg 1 - 48) ≤ pg i
              · rw [if_pos (nI_le a3 (by omega)), decide_eq_false (by omega)]; rfl
              · rw [if_neg (by rw [nI_leI (by omega) (by omega)]; exact a3), decide_eq_true (by omega)]; rfl
