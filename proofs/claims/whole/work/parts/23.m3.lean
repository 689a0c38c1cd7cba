/-! the tables are laid; what a judge tells by them -/
theorem layRow_step {N C P : Nat} {σ : St} (hP : σ 20 0 = nI P) (hC : σ 20 1 = nI C) (hp : P ≤ 3) (h0 : 0 < C) (hc : C ≤ 6) (hN : 4 ≤ N) {r i j q n : Nat} (hi : i < P) (hr : r < 2 ^ 31) (hj : j = i + 1) (hq : q = P - 1 - i) (x2 x3 x4 : Int32) :
    L_X6_layRow_10 N (nI r) (n + 1) x2 x3 x4 (nI i) σ = L_X6_layRow_10 N (nI r) n (x2 ||| ((1 : Int32) <<< (((nI i * (6 : Int32)) + nI (dg C P r i)) &&& 31))) (x3 ||| ((1 : Int32) <<< (((nI q * (6 : Int32)) + nI (dg C P r i)) &&& 31))) (wom x4 (nI (dg C P r i))) (nI j) σ := by
  subst hj hq
  rw [L_X6_layRow_10, hP, if_neg (by rw [nI_leI (by omega) (by omega)]; omega), colX hP hC (by omega) h0 (by omega) (by omega) hi hr, bp_s, wom_eq hN, bp_s, nI_1, show (nI P - (1 : Int32)) - nI i = nI (P - 1 - i) by rw [nI_lit1, pk_sub (by omega), pk_sub (by omega)]]
theorem layRow_end {N P : Nat} {σ : St} (hP : σ 20 0 = nI P) (hp : P ≤ 3) {r n : Nat} (hr : r < 216) (x2 x3 x4 : Int32) :
    L_X6_layRow_10 N (nI r) (n + 1) x2 x3 x4 (nI P) σ = some (pt (pt (pt σ 21 r x2) 22 r x3) 23 r x4) := by
  rw [L_X6_layRow_10, hP, if_pos (by rw [nI_leI (by omega) (by omega)]; omega), gi_nI hr (by omega), gi_nI hr (by omega), gi_nI hr (by omega), nI_clamp (by omega)]
theorem layRowX {N C P : Nat} {σ : St} (hP : σ 20 0 = nI P) (hC : σ 20 1 = nI C) (hp1 : 1 ≤ P) (hp : P ≤ 3) (h0 : 0 < C) (hc : C ≤ 6) (hN : 10 ≤ N) {r : Nat} (hr : r < 216) :
    D_X6_layRow N σ (nI r) = some (pt (pt (pt σ 21 r (nI (pl3 (fld P (dg C P r))))) 22 r (nI (pl3 (fld P (fun k => dg C P r (P - 1 - k)))))) 23 r (nI (h6 (fun c => cnc C P r c P)))) := by
  unfold D_X6_layRow
  obtain ⟨m, rfl⟩ : ∃ m, N = m + 1 + 1 + 1 + 1 := ⟨N - 4, by omega⟩
  have ld : ∀ k, dg C P r k < 6 := fun k => Nat.lt_of_lt_of_le (dg_lt h0) hc
  have hm : 4 ≤ m + 1 + 1 + 1 + 1 := by omega
  rw [show (0 : Int32) = nI 0 from rfl]
  rcases (show P = 1 ∨ P = 2 ∨ P = 3 by omega) with rfl | rfl | rfl
  · have b1 := lay_b1 _ (ld 0)
    rw [layRow_step hP hC hp h0 hc hm (i := 0) (j := 1) (q := 0) (by omega) (by omega) rfl rfl, layRow_end hP hp hr]
    rw [show (nI 0 : Int32) = 0 from rfl] at *
    rw [b1.1, b1.2]
    simp [pl3, fld]
    rfl
  · have b1 := lay_b1 _ (ld 0)
    have b2 := lay_b2 _ (ld 0) _ (ld 1)
    rw [layRow_step hP hC hp h0 hc hm (i := 0) (j := 1) (q := 1) (by omega) (by omega) rfl rfl, layRow_step hP hC hp h0 hc hm (i := 1) (j := 2) (q := 0) (by omega) (by omega) rfl rfl, layRow_end hP hp hr]
    rw [show (nI 0 : Int32) = 0 from rfl] at *
    rw [b1.1, b1.2, b2.1, b2.2.1, b2.2.2]
    have e : (fun c => (if dg C 2 r 0 = c then 1 else 0) + (if dg C 2 r 1 = c then 1 else 0)) = (fun c => cnc C 2 r c 2) := by
      funext c; simp [cnc, cntb, beq_iff_eq]
    rw [e]
    simp [pl3, fld]
  · have b1 := lay_b1 _ (ld 0)
    have b2 := lay_b2 _ (ld 0) _ (ld 1)
    have b3 := lay_b3 _ (ld 0) _ (ld 1) _ (ld 2)
    rw [layRow_step hP hC hp h0 hc hm (i := 0) (j := 1) (q := 2) (by omega) (by omega) rfl rfl, layRow_step hP hC hp h0 hc hm (i := 1) (j := 2) (q := 1) (by omega) (by omega) rfl rfl, layRow_step hP hC hp h0 hc hm (i := 2) (j := 3) (q := 0) (by omega) (by omega) rfl rfl, layRow_end hP hp hr]
    rw [show (nI 0 : Int32) = 0 from rfl] at *
    rw [b1.1, b1.2, b2.1, b2.2.2, b3.1, b3.2.1, b3.2.2]
    have e : (fun c => (if dg C 3 r 0 = c then 1 else 0) + (if dg C 3 r 1 = c then 1 else 0) + (if dg C 3 r 2 = c then 1 else 0)) = (fun c => cnc C 3 r c 3) := by
      funext c; simp [cnc, cntb, beq_iff_eq]
    rw [e]
    simp [pl3, fld]
theorem pow_le {C P : Nat} (hp : P ≤ 3) (hc : C ≤ 6) : C ^ P ≤ 216 := by
  have h1 : C ^ P ≤ 6 ^ P := Nat.pow_le_pow_left hc P
  have h2 : 6 ^ P ≤ 6 ^ 3 := Nat.pow_le_pow_right (by decide) hp
  exact Nat.le_trans h1 h2
theorem rightX {C P : Nat} {σ : St} (hT : TabX σ C P) (hp : P ≤ 3) (h0 : 0 < C) (hc : C ≤ 6) {a b : Nat} (ha : a < C ^ P) (hb : b < C ^ P) : D_X6_right σ (nI a) (nI b) = some (nI (rt C P a b false)) := by
  have l := pow_le hp hc
  have ld : ∀ r k, dg C P r k < 6 := fun r k => Nat.lt_of_lt_of_le (dg_lt h0) hc
  unfold D_X6_right
  rw [gi_nI (by omega) (by omega), gi_nI (by omega) (by omega), nI_clamp (by omega), nI_clamp (by omega), (hT.2.2.2 a ha).1, (hT.2.2.2 b hb).1, bcI_eq, bp_s, bits_right hp (ld a) (ld b)]
  rfl
theorem otherX {C P : Nat} {σ : St} (hT : TabX σ C P) (hp : P ≤ 3) (h0 : 0 < C) (hc : C ≤ 6) {a b : Nat} (ha : a < C ^ P) (hb : b < C ^ P) : D_X6_rightFromOtherEnd σ (nI a) (nI b) = some (nI (rt C P a b true)) := by
  have l := pow_le hp hc
  have ld : ∀ r k, dg C P r k < 6 := fun r k => Nat.lt_of_lt_of_le (dg_lt h0) hc
  unfold D_X6_rightFromOtherEnd
  rw [gi_nI (by omega) (by omega), gi_nI (by omega) (by omega), nI_clamp (by omega), nI_clamp (by omega), (hT.2.2.2 a ha).2.1, (hT.2.2.2 b hb).1, bcI_eq, bp_s, bits_right hp (fun k => ld a (P - 1 - k)) (ld b)]
  rfl
theorem alikeX {C P : Nat} {σ : St} (hT : TabX σ C P) (hp : P ≤ 3) (h0 : 2 ≤ C) (hc : C ≤ 6) {a b : Nat} (ha : a < C ^ P) (hb : b < C ^ P) : D_X6_alike σ (nI a) (nI b) = some (nI (al C P a b)) := by
  have l := pow_le hp hc
  have lm : ∀ r c, cnc C P r c P < 4 := fun r c => by
    have : cnc C P r c P ≤ P := cntb_le _ _
    omega
  have hz : ∀ c, C ≤ c → cnc C P a c P = 0 := fun c hcc => by
    have : ∀ n, cnc C P a c n = 0 := by
      intro n
      induction n with
      | zero => rfl
      | succ n ih =>
        show cntb _ (n + 1) = 0
        rw [cntb]
        show cnc C P a c n + _ = 0
        have : dg C P a n < C := dg_lt (by omega)
        rw [ih, if_neg (by rw [beq_iff_eq]; omega)]
    exact this P
  have hs : al C P a b = min (cnc C P a 0 P) (cnc C P b 0 P) + min (cnc C P a 1 P) (cnc C P b 1 P) + min (cnc C P a 2 P) (cnc C P b 2 P) + min (cnc C P a 3 P) (cnc C P b 3 P) + min (cnc C P a 4 P) (cnc C P b 4 P) + min (cnc C P a 5 P) (cnc C P b 5 P) := by
    have z : ∀ c, C ≤ c → min (cnc C P a c P) (cnc C P b c P) = 0 := fun c h => by rw [hz c h]; exact Nat.zero_min _
    rcases (show C = 2 ∨ C = 3 ∨ C = 4 ∨ C = 5 ∨ C = 6 by omega) with rfl | rfl | rfl | rfl | rfl
    · rw [z 2 (by omega), z 3 (by omega), z 4 (by omega), z 5 (by omega)]; simp only [al, sumb]; omega
    · rw [z 3 (by omega), z 4 (by omega), z 5 (by omega)]; simp only [al, sumb]; omega
    · rw [z 4 (by omega), z 5 (by omega)]; simp only [al, sumb]; omega
    · rw [z 5 (by omega)]; simp only [al, sumb]; omega
    · simp only [al, sumb]; omega
  have hle : al C P a b ≤ P := al_le (by omega)
  unfold D_X6_alike
  rw [gi_nI (by omega) (by omega), gi_nI (by omega) (by omega), nI_clamp (by omega), nI_clamp (by omega), (hT.2.2.2 a ha).2.2, (hT.2.2.2 b hb).2.2, bcI_eq, bp_s, bits_alike (lm a) (lm b) (by omega), hs]
theorem wordX {C P : Nat} {σ : St} (hT : TabX σ C P) (hp : P ≤ 3) (h0 : 2 ≤ C) (hc : C ≤ 6) {a b kd : Nat} (ha : a < C ^ P) (hb : b < C ^ P) (hk : kd < 5) : D_wd σ kd (nI a) (nI b) = some (nI (tl C P kd a b)) := by
  have h1 := rightX hT hp (by omega) hc ha hb
  have h2 := otherX hT hp (by omega) hc ha hb
  have h3 := alikeX hT hp h0 hc ha hb
  have l1 : al C P a b ≤ P := al_le (by omega)
  have pw_ : ∀ x y : Nat, x ≤ P → D_X2_plainWord (nI x) (nI y) = some (nI (9 * x + y)) := fun x y hx => by
    unfold D_X2_plainWord
    rw [show (10 : Int32) * nI x = nI (10 * x) by rw [← pk_mul]; rfl, nI_add, pk_sub (by omega), show 10 * x + y - x = 9 * x + y by omega]
  unfold D_wd
  rcases (show kd = 0 ∨ kd = 1 ∨ kd = 2 ∨ kd = 3 ∨ kd = 4 by omega) with rfl | rfl | rfl | rfl | rfl
  · rw [if_pos rfl]; unfold D_X2_word; rw [h1, bp_s, h3, bp_s, pw_ _ _ rt_le, bp_s]; rfl
  · rw [if_neg (by decide), if_pos rfl]; unfold D_X7_word; rw [h3, bp_s]; rfl
  · rw [if_neg (by decide), if_neg (by decide), if_pos rfl]; unfold D_X8_word; rw [h1, bp_s]; rfl
  · rw [if_neg (by decide), if_neg (by decide), if_neg (by decide), if_pos rfl]; unfold D_X10_word; rw [h2, bp_s, h3, bp_s, pw_ _ _ rt_le, bp_s]; rfl
  · rw [if_neg (by decide), if_neg (by decide), if_neg (by decide), if_neg (by decide), if_pos rfl]; unfold D_X1_word; rw [h3, bp_s, nI_lit1, fa_and, Nat.and_one_is_mod]; rfl
/-- what cells a state keeps of another -/
def Kp (ks : List Nat) (σ τ : St) : Prop := ∀ k, k ∉ ks → τ k = σ k
theorem layX {N C P : Nat} (σ : St) (hp1 : 1 ≤ P) (hp : P ≤ 3) (h0 : 2 ≤ C) (hc : C ≤ 6) (hN : 300 ≤ N) : ∃ τ, D_X6_lay N σ (nI P) (nI C) = some τ ∧ TabX τ C P ∧ Kp [20, 21, 22, 23] σ τ := by
  have l := pow_le hp hc
  unfold D_X6_lay
  have second : ∀ τ : St, τ 20 0 = nI P → τ 20 1 = nI C → τ 20 2 = nI (C ^ P) → Kp [20, 21, 22, 23] σ τ → ∃ τ', L_X6_lay_40 N N 0 τ = some τ' ∧ TabX τ' C P ∧ Kp [20, 21, 22, 23] σ τ' := by
    intro τ e1 e2 e3 e4
    refine loopQ (S := St) (fun n i s => L_X6_lay_40 N n (nI i) s) (C ^ P) (fun i s => s 20 0 = nI P ∧ s 20 1 = nI C ∧ s 20 2 = nI (C ^ P) ∧ Kp [20, 21, 22, 23] σ s ∧ ∀ r, r < i → s 21 r = nI (pl3 (fld P (dg C P r))) ∧ s 22 r = nI (pl3 (fld P (fun k => dg C P r (P - 1 - k)))) ∧ s 23 r = nI (h6 (fun c => cnc C P r c P))) (fun o => ∃ τ', o = some τ' ∧ TabX τ' C P ∧ Kp [20, 21, 22, 23] σ τ') ?_ ?_ N 0 τ (Nat.zero_le _) (by omega) ⟨e1, e2, e3, e4, fun r h => absurd h (Nat.not_lt_zero r)⟩
    · intro n s hI
      obtain ⟨i1, i2, i3, i4, i5⟩ := hI
      refine ⟨s, ?_, ⟨i1, i2, i3, i5⟩, i4⟩
      show L_X6_lay_40 N (n + 1) (nI (C ^ P)) s = some s
      rw [L_X6_lay_40, i3, if_pos (by rw [nI_leI (by omega) (by omega)]; omega)]
    · intro n i s hi hI ih
      obtain ⟨i1, i2, i3, i4, i5⟩ := hI
      show ∃ τ', L_X6_lay_40 N (n + 1) (nI i) s = some τ' ∧ _
      rw [L_X6_lay_40, i3, if_neg (by rw [nI_leI (by omega) (by omega)]; omega), layRowX i1 i2 hp1 hp (by omega) hc (by omega) (show i < 216 by omega), bp_s, nI_1]
      refine ih _ ⟨i1, i2, i3, fun k hk => ?_, fun r hr => ?_⟩
      · have k1 : k ≠ 21 := fun e => hk (by rw [e]; decide)
        have k2 : k ≠ 22 := fun e => hk (by rw [e]; decide)
        have k3 : k ≠ 23 := fun e => hk (by rw [e]; decide)
        rw [pt_ne k3, pt_ne k2, pt_ne k1]
        exact i4 k hk
      · show upd (s 21) i _ r = _ ∧ upd (s 22) i _ r = _ ∧ upd (s 23) i _ r = _
        by_cases e : r = i
        · subst e
          rw [upd_at, upd_at, upd_at]
          exact ⟨rfl, rfl, rfl⟩
        · rw [upd_ne e, upd_ne e, upd_ne e]
          exact i5 r (by omega)
  refine loopQ (S := St) (fun n i s => L_X6_lay_17 N (nI P) (nI C) n (nI i) s) P (fun i s => s 20 0 = nI P ∧ s 20 1 = nI C ∧ s 20 2 = nI (C ^ i) ∧ Kp [20, 21, 22, 23] σ s) (fun o => ∃ τ', o = some τ' ∧ TabX τ' C P ∧ Kp [20, 21, 22, 23] σ τ') ?_ ?_ N 0 _ (Nat.zero_le _) (by omega) ⟨rfl, rfl, rfl, fun k hk => ?_⟩
  · intro n s hI
    obtain ⟨i1, i2, i3, i4⟩ := hI
    show ∃ τ', L_X6_lay_17 N (nI P) (nI C) (n + 1) (nI P) s = some τ' ∧ _
    rw [L_X6_lay_17, if_pos (by rw [nI_leI (by omega) (by omega)]; omega)]
    exact second s i1 i2 i3 i4
  · intro n i s hi hI ih
    obtain ⟨i1, i2, i3, i4⟩ := hI
    show ∃ τ', L_X6_lay_17 N (nI P) (nI C) (n + 1) (nI i) s = some τ' ∧ _
    rw [L_X6_lay_17, if_neg (by rw [nI_leI (by omega) (by omega)]; omega), nI_1]
    refine ih _ ⟨i1, i2, ?_, fun k hk => ?_⟩
    · show s 20 2 * nI C = nI (C ^ (i + 1))
      rw [i3, pk_mul, Nat.pow_succ]
    · have k1 : k ≠ 20 := fun e => hk (by rw [e]; decide)
      rw [pt_ne k1]
      exact i4 k hk
  · have k1 : k ≠ 20 := fun e => hk (by rw [e]; decide)
    rw [pt_ne k1, pt_ne k1, pt_ne k1]
