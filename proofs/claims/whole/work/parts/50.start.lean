/-! the law's start -/
theorem fst_XM (g : Gx) (h : Int64) (σ μ : St) : (wX g σ ++ wM g h μ).map Prod.fst = (List.range 41).map g.2.2 := by
  rw [List.map_append, fst_X, fst_M]
  rfl
theorem at_XM {g : Gx} {h : Int64} {σ μ : St} {i : Nat} (hi : i < 41) : ∃ q : Nat × va_E, (wX g σ ++ wM g h μ)[i]? = some q ∧ q.1 = g.2.2 i := by
  have h1 : ((wX g σ ++ wM g h μ).map Prod.fst)[i]? = some (g.2.2 i) := by rw [fst_XM, List.getElem?_map, List.getElem?_range hi]; rfl
  rw [List.getElem?_map] at h1
  cases hq : (wX g σ ++ wM g h μ)[i]? with
  | none => rw [hq] at h1; cases h1
  | some q => rw [hq] at h1; exact ⟨q, rfl, Option.some.inj h1⟩
theorem inj_XM {g : Gx} {h : Int64} {σ μ : St} {A : Nat → Prop} (hD : va_D A (wX g σ ++ wM g h μ)) : Inj g := by
  intro i j hi hj e
  obtain ⟨q, q1, q2⟩ := at_XM (g := g) (h := h) (σ := σ) (μ := μ) hi
  obtain ⟨r, r1, r2⟩ := at_XM (g := g) (h := h) (σ := σ) (μ := μ) hj
  exact hD.1 i j q r q1 r1 (by rw [q2, r2, e])
theorem all_XM {g : Gx} {h : Int64} {σ μ : St} {A : Nat → Prop} (hD : va_D A (wX g σ ++ wM g h μ)) : ∀ k, k < 41 → A (g.2.2 k) := by
  intro k hk
  obtain ⟨q, q1, q2⟩ := at_XM (g := g) (h := h) (σ := σ) (μ := μ) hk
  rw [← q2]
  exact hD.2 k q q1
/-- the addresses, of both objects and of the text -/
def gad (q0 q1 : Nat) (a a2 : Nat → Nat) (aK aV : Nat) : Nat → Nat := fun k => if k < 31 then adh q0 a k else if k < 41 then adm q1 a2 k else if k = 50 then aK else aV
theorem rel_start : RelE 0 (fun _ _ => 0) mu0 := by
  refine ⟨0, 0, 0, 0, 0, Nat.le_refl 0, ⟨0, fun _ => 0, by omega, rfl, rfl, fun j hj => absurd hj (Nat.not_lt_zero j)⟩, ⟨Or.inl ⟨rfl, rfl, rfl, rfl⟩, rfl, rfl, rfl, rfl, rfl, rfl, rfl, rfl, fun q => absurd q (Nat.lt_irrefl 0)⟩, ⟨0, 0, fun _ => 0, fun _ => 0, fun _ => 0, fun _ => 0, ⟨by omega, fun q => absurd q (Nat.lt_irrefl 0), rfl, rfl, fun j hj => absurd hj (Nat.not_lt_zero j), fun j hj => absurd hj (Nat.not_lt_zero j)⟩, rfl, fun _ => rfl, fun q => absurd q (Nat.lt_irrefl 0)⟩, Or.inl ⟨rfl, Or.inl rfl⟩, ⟨0, 0, 0, 0, by omega, by omega, by omega, rfl, rfl, rfl, rfl, rfl, rfl, rfl, rfl, rfl, by omega, fun i hi => ⟨0, Nat.le_refl 0, rfl⟩⟩⟩
theorem nw_start {args : Array Value} {s : State} (hts : ∀ w ∈ lw_tbl, w.before args s = true) : NwI s :=
  ⟨List.forall_mem_cons.mpr ⟨va_Nw.of rfl (hts _ (List.mem_of_getElem? (i := 88) (by decide +kernel))), List.forall_mem_cons.mpr ⟨va_Nw.of rfl (hts _ (List.mem_of_getElem? (i := 105) (by decide +kernel))), List.forall_mem_cons.mpr ⟨va_Nw.of rfl (hts _ (List.mem_of_getElem? (i := 112) (by decide +kernel))), List.forall_mem_cons.mpr ⟨va_Nw.of rfl (hts _ (List.mem_of_getElem? (i := 119) (by decide +kernel))), List.forall_mem_cons.mpr ⟨va_Nw.of rfl (hts _ (List.mem_of_getElem? (i := 126) (by decide +kernel))), List.forall_mem_cons.mpr ⟨va_Nw.of rfl (hts _ (List.mem_of_getElem? (i := 133) (by decide +kernel))), List.forall_mem_cons.mpr ⟨va_Nw.of rfl (hts _ (List.mem_of_getElem? (i := 140) (by decide +kernel))), List.forall_mem_cons.mpr ⟨va_Nw.of rfl (hts _ (List.mem_of_getElem? (i := 171) (by decide +kernel))), List.forall_mem_cons.mpr ⟨va_Nw.of rfl (hts _ (List.mem_of_getElem? (i := 115) (by decide +kernel))), List.forall_mem_cons.mpr ⟨va_Nw.of rfl (hts _ (List.mem_of_getElem? (i := 122) (by decide +kernel))), List.forall_mem_cons.mpr ⟨va_Nw.of rfl (hts _ (List.mem_of_getElem? (i := 129) (by decide +kernel))), List.forall_mem_cons.mpr ⟨va_Nw.of rfl (hts _ (List.mem_of_getElem? (i := 136) (by decide +kernel))), fun _ h => absurd h List.not_mem_nil⟩⟩⟩⟩⟩⟩⟩⟩⟩⟩⟩⟩, List.forall_mem_cons.mpr ⟨va_Nw.of rfl (hts _ (List.mem_of_getElem? (i := 1140) (by decide +kernel))), List.forall_mem_cons.mpr ⟨va_Nw.of rfl (hts _ (List.mem_of_getElem? (i := 1141) (by decide +kernel))), List.forall_mem_cons.mpr ⟨va_Nw.of rfl (hts _ (List.mem_of_getElem? (i := 1142) (by decide +kernel))), List.forall_mem_cons.mpr ⟨va_Nw.of rfl (hts _ (List.mem_of_getElem? (i := 1143) (by decide +kernel))), fun _ h => absurd h List.not_mem_nil⟩⟩⟩⟩, va_AO.of (hts (.arrayOver (.object "JudgedRows$Judge")) (List.mem_of_getElem? (i := 103) (by decide +kernel)))⟩
set_option maxRecDepth 20000 in
theorem ex_start {b : Nat} {s : State} (hts : ∀ w ∈ lw_tbl, w.before #[Value.ref b] s = true) (hgv : (Jvm.Cond.and given_1 narrow_1).before #[Value.ref b] s = true) : ∃ aK aV : Nat, ∀ g : Gx, g.2.2 50 = aK → g.2.2 51 = aV → ExX g (fun q : Nat => s.heap.size ≤ q) s := by
  have hs := flat_of_before _ hgv
  have hA : ∀ a : Nat, a < s.heap.size → ¬ (fun q : Nat => s.heap.size ≤ q) a := fun a h => Nat.not_le.mpr h
  obtain ⟨adK, adV, h1, h2⟩ := vk_Sof (args := #[Value.ref b]) (s := s) (N := 1) (tm := fun _ => (.string "JudgedRows$Page" 37)) (len := [5]) (byt := [[106, 115, 116, 119, 99]]) (A := fun q : Nat => s.heap.size ≤ q)
    (fun i hi => by obtain rfl : i = 0 := by omega
                    decide)
    (fun i hi => hs (.exactly (.string "JudgedRows$Page" 37) "java/lang/String") (by decide +kernel))
    (fun i hi => hs (.eq (.field (.string "JudgedRows$Page" 37) "java/lang/String" "coder" "B") (.int 0)) (by decide +kernel))
    (fun i hi => hs (.arrayOf (.field (.string "JudgedRows$Page" 37) "java/lang/String" "value" "[B") .byte) (by decide +kernel))
    (fun i hi => by obtain rfl : i = 0 := by omega
                    exact hs (.eq (.length (.field (.string "JudgedRows$Page" 37) "java/lang/String" "value" "[B")) (.int 5)) (by decide +kernel))
    (fun i hi j hj => by
      obtain rfl : i = 0 := by omega
      have hj : j < 5 := hj
      rcases (show j = 0 ∨ j = 1 ∨ j = 2 ∨ j = 3 ∨ j = 4 by omega) with rfl | rfl | rfl | rfl | rfl
      · exact hs (.eq (.elem (.field (.string "JudgedRows$Page" 37) "java/lang/String" "value" "[B") (.int 0)) (.int 106)) (by decide +kernel)
      · exact hs (.eq (.elem (.field (.string "JudgedRows$Page" 37) "java/lang/String" "value" "[B") (.int 1)) (.int 115)) (by decide +kernel)
      · exact hs (.eq (.elem (.field (.string "JudgedRows$Page" 37) "java/lang/String" "value" "[B") (.int 2)) (.int 116)) (by decide +kernel)
      · exact hs (.eq (.elem (.field (.string "JudgedRows$Page" 37) "java/lang/String" "value" "[B") (.int 3)) (.int 119)) (by decide +kernel)
      · exact hs (.eq (.elem (.field (.string "JudgedRows$Page" 37) "java/lang/String" "value" "[B") (.int 4)) (.int 99)) (by decide +kernel))
    (fun i j hi hj hij => absurd (show i = j by omega) hij) hA
  refine ⟨adK 0, adV 0, fun g e1 e2 => ⟨?_, ?_, ?_, ?_, ?_⟩⟩
  · rw [e1]
    exact vk_R.of (hts (.stringRef "JudgedRows$Page" 37 "jstwc") (List.mem_of_getElem? (i := 362) (by decide +kernel))) (h2 0 (by decide))
  · rw [e1, e2]
    refine ⟨fun i hi => ?_, fun i j hi hj _ => by omega⟩
    obtain rfl : i = 0 := by omega
    exact h1.1 0 hi
  · exact va_Zof (hts (.laysStatic "java/lang/String" "COMPACT_STRINGS" "Z") (List.mem_of_getElem? (i := 376) (by decide +kernel))) (hts (.initialized "java/lang/String") (List.mem_of_getElem? (i := 70) (by decide +kernel))) (va_eqi (hs (.eq (.static "java/lang/String" "COMPACT_STRINGS" "Z") (.int 1)) (by decide +kernel))) hA
  · exact va_Nw.of rfl (hts (.castable "JudgedRows$CurtJudge" "JudgedRows$ShortJudge") (List.mem_of_getElem? (i := 1139) (by decide +kernel)))
  · exact List.forall_mem_cons.mpr ⟨va_Nc.of (hs (Cond.not (.castable "JudgedRows$Judge" "JudgedRows$ShortJudge")) (by decide +kernel)), List.forall_mem_cons.mpr ⟨va_Nc.of (hs (Cond.not (.castable "JudgedRows$Judge" "JudgedRows$SternJudge")) (by decide +kernel)), List.forall_mem_cons.mpr ⟨va_Nc.of (hs (Cond.not (.castable "JudgedRows$Judge" "JudgedRows$WrongJudge")) (by decide +kernel)), List.forall_mem_cons.mpr ⟨va_Nc.of (hs (Cond.not (.castable "JudgedRows$Judge" "JudgedRows$CurtJudge")) (by decide +kernel)), List.forall_mem_cons.mpr ⟨va_Nc.of (hs (Cond.not (.castable "JudgedRows$ShortJudge" "JudgedRows$SternJudge")) (by decide +kernel)), List.forall_mem_cons.mpr ⟨va_Nc.of (hs (Cond.not (.castable "JudgedRows$ShortJudge" "JudgedRows$WrongJudge")) (by decide +kernel)), List.forall_mem_cons.mpr ⟨va_Nc.of (hs (Cond.not (.castable "JudgedRows$ShortJudge" "JudgedRows$CurtJudge")) (by decide +kernel)), List.forall_mem_cons.mpr ⟨va_Nc.of (hs (Cond.not (.castable "JudgedRows$SternJudge" "JudgedRows$ShortJudge")) (by decide +kernel)), List.forall_mem_cons.mpr ⟨va_Nc.of (hs (Cond.not (.castable "JudgedRows$SternJudge" "JudgedRows$WrongJudge")) (by decide +kernel)), List.forall_mem_cons.mpr ⟨va_Nc.of (hs (Cond.not (.castable "JudgedRows$SternJudge" "JudgedRows$CurtJudge")) (by decide +kernel)), List.forall_mem_cons.mpr ⟨va_Nc.of (hs (Cond.not (.castable "JudgedRows$WrongJudge" "JudgedRows$ShortJudge")) (by decide +kernel)), List.forall_mem_cons.mpr ⟨va_Nc.of (hs (Cond.not (.castable "JudgedRows$WrongJudge" "JudgedRows$SternJudge")) (by decide +kernel)), List.forall_mem_cons.mpr ⟨va_Nc.of (hs (Cond.not (.castable "JudgedRows$WrongJudge" "JudgedRows$CurtJudge")) (by decide +kernel)), List.forall_mem_cons.mpr ⟨va_Nc.of (hs (Cond.not (.castable "JudgedRows$CurtJudge" "JudgedRows$SternJudge")) (by decide +kernel)), List.forall_mem_cons.mpr ⟨va_Nc.of (hs (Cond.not (.castable "JudgedRows$CurtJudge" "JudgedRows$WrongJudge")) (by decide +kernel)), fun _ h => absurd h List.not_mem_nil⟩⟩⟩⟩⟩⟩⟩⟩⟩⟩⟩⟩⟩⟩⟩
set_option maxRecDepth 20000 in
theorem k_start {args : Array Value} {s : State} (hts : ∀ w ∈ lw_tbl, w.before args s = true) : ∃ (D : va_G) (cA : Nat → ClassId), va_K D vwCl (tyc cA) s := by
  have htb : ∀ w ∈ tb, w.before args s = true := fun w h => hts w (List.mem_filter.mp h).1
  obtain ⟨c0, i0, k0⟩ := u_known (C := RX0) (T := TX0) (N := 6) (n := 6) htb inX0 (htb (.instantiable RX0 6) (tb_in 139 (by decide +kernel) (by decide +kernel)))
  obtain ⟨c1, i1, k1⟩ := u_known (C := RX1) (T := TX1) (N := 0) (n := 0) htb inX1 (htb (.instantiable RX1 0) (tb_in 132 (by decide +kernel) (by decide +kernel)))
  obtain ⟨c2, i2, k2⟩ := u_known (C := RX2) (T := TX2) (N := 0) (n := 0) htb inX2 (htb (.instantiable RX2 0) (tb_in 104 (by decide +kernel) (by decide +kernel)))
  obtain ⟨c3, i3, k3⟩ := u_known (C := RX3) (T := TX3) (N := 2) (n := 2) htb inX3 (htb (.instantiable RX3 2) (tb_in 87 (by decide +kernel) (by decide +kernel)))
  obtain ⟨c4, i4, k4⟩ := u_known (C := RX4) (T := TX4) (N := 6) (n := 6) htb inX4 (htb (.instantiable RX4 6) (tb_in 228 (by decide +kernel) (by decide +kernel)))
  obtain ⟨c5, i5, k5⟩ := u_known (C := RX5) (T := TX5) (N := 5) (n := 5) htb inX5 (htb (.instantiable RX5 5) (tb_in 201 (by decide +kernel) (by decide +kernel)))
  obtain ⟨c6, i6, k6⟩ := u_known (C := RX6) (T := TX6) (N := 6) (n := 6) htb inX6 (htb (.instantiable RX6 6) (tb_in 170 (by decide +kernel) (by decide +kernel)))
  obtain ⟨c7, i7, k7⟩ := u_known (C := RX7) (T := TX7) (N := 0) (n := 0) htb inX7 (htb (.instantiable RX7 0) (tb_in 111 (by decide +kernel) (by decide +kernel)))
  obtain ⟨c8, i8, k8⟩ := u_known (C := RX8) (T := TX8) (N := 0) (n := 0) htb inX8 (htb (.instantiable RX8 0) (tb_in 118 (by decide +kernel) (by decide +kernel)))
  obtain ⟨c9, i9, k9⟩ := u_known (C := RX9) (T := TX9) (N := 5) (n := 5) htb inX9 (htb (.instantiable RX9 5) (tb_in 256 (by decide +kernel) (by decide +kernel)))
  obtain ⟨c10, i10, k10⟩ := u_known (C := RX10) (T := TX10) (N := 0) (n := 0) htb inX10 (htb (.instantiable RX10 0) (tb_in 125 (by decide +kernel) (by decide +kernel)))
  obtain ⟨c11, i11, k11⟩ := u_known (C := RX11) (T := TX11) (N := 15) (n := 15) htb inX11 (htb (.instantiable RX11 15) (tb_in 79 (by decide +kernel) (by decide +kernel)))
  obtain ⟨c12, i12, k12⟩ := u_known (C := RX12) (T := TX12) (N := 27) (n := 27) htb inX12 (htb (.instantiable RX12 27) (tb_in 775 (by decide +kernel) (by decide +kernel)))
  obtain ⟨cI, kI, dI, a1, a2, a3⟩ := Cond.arrayClass_spec (htb (.arrayClass .int) (tb_in 101 (by decide +kernel) (by decide +kernel)))
  obtain ⟨cZ, kZ, dZ, b1, b2, b3⟩ := Cond.arrayClass_spec (htb (.arrayClass .boolean) (tb_in 226 (by decide +kernel) (by decide +kernel)))
  obtain ⟨dJ, cJ, kJ, j1, j2, j3, j4, j5⟩ := Cond.arrayOver_spec (hts (.arrayOver (.object "JudgedRows$Judge")) (List.mem_of_getElem? (i := 103) (by decide +kernel)))
  refine ⟨(fun k => ([c0, c1, c2, c3, c4, c5, c6, c7, c8, c9, c10, c11, c12] : List ClassId).getD k c0, fun k => ([i0, i1, i2, i3, i4, i5, i6, i7, i8, i9, i10, i11, i12] : List (Nat → Nat)).getD k i0), fun k => ([cI, cZ, cJ] : List ClassId).getD k cI, ⟨?_, ?_⟩⟩
  · intro k q hq
    match k, hq with
    | 0, hq => cases hq; exact k0
    | 1, hq => cases hq; exact k1
    | 2, hq => cases hq; exact k2
    | 3, hq => cases hq; exact k3
    | 4, hq => cases hq; exact k4
    | 5, hq => cases hq; exact k5
    | 6, hq => cases hq; exact k6
    | 7, hq => cases hq; exact k7
    | 8, hq => cases hq; exact k8
    | 9, hq => cases hq; exact k9
    | 10, hq => cases hq; exact k10
    | 11, hq => cases hq; exact k11
    | 12, hq => cases hq; exact k12
    | k + 13, hq => simp [vwCl] at hq
  · intro k q hq
    match k, hq with
    | 0, hq => cases hq; exact ⟨fun n z => ⟨fun k h => (by cases h), kI, a2, dI, a3⟩, a1⟩
    | 1, hq => cases hq; exact ⟨fun n z => ⟨fun k h => (by cases h), kZ, b2, dZ, b3⟩, b1⟩
    | 2, hq => cases hq; exact ⟨fun n z => ⟨fun k h => (by cases h), kJ, j3, dJ, j4⟩, kJ, dJ, j3, j4, j1, j5⟩
    | k + 3, hq => simp at hq
set_option maxHeartbeats 4000000 in
set_option maxRecDepth 100000 in
theorem whole_start {p : Program} {e : Env} {s : State} {m : MethodId} {below : List Frame} {meth : Method} {c : Code} (l : Launch) (hflags : l.flags = flags0) {b L : Nat} {xs : Nat → Int32} (hL : L ≤ 2560) (C0 : lw_At p s m meth c b L xs) : W p l e room_1 s m #[Value.ref b] below meth c s.heap [] 0 0 (lw_Z below #[Value.ref b] s) (entryFrame m ([Value.ref b] : List Value).toArray 4) := by
  obtain ⟨hx, hb, hr, hml, hown, hts, hX, hbl, hlocks, hgv⟩ := id C0
  have hown : s.vm.findClass RL = some m.cls := hown
  have htb : ∀ w ∈ tb, w.before #[Value.ref b] s = true := fun w h => hts w (List.mem_filter.mp h).1
  obtain ⟨D, cA, hK⟩ := k_start hts
  obtain ⟨aK, aV, hE⟩ := ex_start hts hgv
  have C : CI D cA (fun q : Nat => s.heap.size ≤ q) p s m #[Value.ref b] meth c cL_law 4 RL := ⟨hx, hb, hml, hown, htb, hK, nw_start hts, fun _ h => h, hlocks⟩
  have hS : va_S (fun q : Nat => s.heap.size ≤ q) s.heap s.heap [] := va_S.rf
  have hP : va_P D vwCl [] s.heap := fun k q h => by simp at h
  have hD : va_D (fun q : Nat => s.heap.size ≤ q) [] := ⟨fun i j p q h => by simp at h, fun k q h => by simp at h⟩
  have hl := lv_entry ([.ref b]) (n := 4) (Nat.le_of_ble_eq_true rfl)
  rw [lg_entry_eq]
  generalize (lg_sl ([.ref b]) ++ List.replicate (4 - (lg_sl ([.ref b])).length) Slot.unset).toArray = ls at hl ⊢
  have hl : lv_has ls 4 [(0, .ref b)] := hl
  refine va_new (ci := 11) (fs := [.null, .null, .null, .null, .null, .null, .null, .null, .null, .int 0, .int 0, .int 0, .int 0, .int 0, .int 0]) (C := RX11) (T := TX11) (N := 15) hx hb htb inX11 tyX11 tyX11_ok hown (htb (.classLink RL 7 RX11) (tb_in 78 (by decide +kernel) (by decide +kernel))) (htb (.instantiable RX11 15) (tb_in 79 (by decide +kernel) (by decide +kernel))) (htb (.initialized RX11) (tb_in 57 (by decide +kernel) (by decide +kernel))) hK hP hD hS C.2.2.2.2.2.2.2.1 rfl (fun j hj => by rcases (show j = 0 ∨ j = 1 ∨ j = 2 ∨ j = 3 ∨ j = 4 ∨ j = 5 ∨ j = 6 ∨ j = 7 ∨ j = 8 ∨ j = 9 ∨ j = 10 ∨ j = 11 ∨ j = 12 ∨ j = 13 ∨ j = 14 by omega) with rfl | rfl | rfl | rfl | rfl | rfl | rfl | rfl | rfl | rfl | rfl | rfl | rfl | rfl | rfl <;> rfl) (Nat.le_of_ble_eq_true rfl) (Nat.le_of_ble_eq_true rfl) dL_law_0 (fun q0 H hP hD hS => ?_)
  have hP : va_P D vwCl [(q0, .inr (11, [.null, .null, .null, .null, .null, .null, .null, .null, .null, .int 0, .int 0, .int 0, .int 0, .int 0, .int 0]))] H := hP
  have hD : va_D (fun q : Nat => s.heap.size ≤ q) [(q0, .inr (11, [.null, .null, .null, .null, .null, .null, .null, .null, .null, .int 0, .int 0, .int 0, .int 0, .int 0, .int 0]))] := hD
  refine lv_dup hx hb dL_law_3 rfl ?_
  refine cd_I (n := 0) (As := []) (rest := [.ref q0]) (wr := []) C (ci_X11 l D cA _ q0) hP hD hS [0] [] rfl rfl rfl (by decide) (by decide) (by decide) (List.forall_mem_cons.mpr ⟨tb_in 57 (by decide +kernel) (by decide +kernel), List.forall_mem_cons.mpr ⟨tb_in 81 (by decide +kernel) (by decide +kernel), List.forall_mem_cons.mpr ⟨tb_in 82 (by decide +kernel) (by decide +kernel), List.forall_mem_cons.mpr ⟨tb_in 80 (by decide +kernel) (by decide +kernel), fun _ h => absurd h List.not_mem_nil⟩⟩⟩⟩) rfl ⟨rfl, rfl⟩ ⟨Nat.le_of_ble_eq_true rfl, Nat.le_of_ble_eq_true rfl⟩ (by decide +kernel) rfl hl.1 rfl (Nat.le_of_ble_eq_true rfl) ⟨Nat.le_of_ble_eq_true rfl, Nat.le_of_ble_eq_true rfl⟩ dL_law_4 (fun a H locs hP hD hS => ?_)
  have hP : va_P D vwCl (wX (D, cA, adh q0 a) (fun _ _ => 0)) H := hP
  have hD : va_D (fun q : Nat => s.heap.size ≤ q) (wX (D, cA, adh q0 a) (fun _ _ => 0)) := hD
  refine lv_astore_n (lv' := [(1, .ref q0), (0, .ref b)]) hx hb dL_law_7 rfl hl (by decide) rfl (fun ls hl => ?_)
  refine va_new (ci := 12) (fs := [.null, .int 0, .int 0, .int 0, .int 0, .int 0, .int 0, .int 0, .int 0, .int 0, .null, .null, .null, .null, .int 0, .int 0, .int 0, .int 0, .null, .null, .int 0, .int 0, .int 0, .int 0, .null, .null, .long 0]) (C := RX12) (T := TX12) (N := 27) hx hb htb inX12 tyX12 tyX12_ok hown (htb (.classLink RL 10 RX12) (tb_in 774 (by decide +kernel) (by decide +kernel))) (htb (.instantiable RX12 27) (tb_in 775 (by decide +kernel) (by decide +kernel))) (htb (.initialized RX12) (tb_in 69 (by decide +kernel) (by decide +kernel))) hK hP hD hS C.2.2.2.2.2.2.2.1 rfl (fun j hj => by rcases (show j = 0 ∨ j = 1 ∨ j = 2 ∨ j = 3 ∨ j = 4 ∨ j = 5 ∨ j = 6 ∨ j = 7 ∨ j = 8 ∨ j = 9 ∨ j = 10 ∨ j = 11 ∨ j = 12 ∨ j = 13 ∨ j = 14 ∨ j = 15 ∨ j = 16 ∨ j = 17 ∨ j = 18 ∨ j = 19 ∨ j = 20 ∨ j = 21 ∨ j = 22 ∨ j = 23 ∨ j = 24 ∨ j = 25 ∨ j = 26 by omega) with rfl | rfl | rfl | rfl | rfl | rfl | rfl | rfl | rfl | rfl | rfl | rfl | rfl | rfl | rfl | rfl | rfl | rfl | rfl | rfl | rfl | rfl | rfl | rfl | rfl | rfl | rfl <;> rfl) (Nat.le_of_ble_eq_true rfl) (Nat.le_of_ble_eq_true rfl) dL_law_8 (fun q1 H hP hD hS => ?_)
  refine lv_dup hx hb dL_law_11 rfl ?_
  refine cd_I (n := 0) (As := []) (rest := [.ref q1]) (wr := (wX (D, cA, adh q0 a) (fun _ _ => 0))) C (ci_X12 l D cA _ q1) hP hD hS [31] [0, 1, 2, 3, 4, 5, 6, 7, 8, 9, 10, 11, 12, 13, 14, 15, 16, 17, 18, 19, 20, 21, 22, 23, 24, 25, 26, 27, 28, 29, 30] rfl rfl rfl (by decide) (by decide) (by decide) (List.forall_mem_cons.mpr ⟨tb_in 69 (by decide +kernel) (by decide +kernel), List.forall_mem_cons.mpr ⟨tb_in 777 (by decide +kernel) (by decide +kernel), List.forall_mem_cons.mpr ⟨tb_in 778 (by decide +kernel) (by decide +kernel), List.forall_mem_cons.mpr ⟨tb_in 776 (by decide +kernel) (by decide +kernel), fun _ h => absurd h List.not_mem_nil⟩⟩⟩⟩) rfl ⟨rfl, rfl⟩ ⟨Nat.le_of_ble_eq_true rfl, Nat.le_of_ble_eq_true rfl⟩ (by decide +kernel) rfl hl.1 rfl (Nat.le_of_ble_eq_true rfl) ⟨Nat.le_of_ble_eq_true rfl, Nat.le_of_ble_eq_true rfl⟩ dL_law_12 (fun a2 H locs hP hD hS => ?_)
  obtain ⟨g, eg⟩ : ∃ g : Gx, g = (D, cA, gad q0 q1 a a2 aK aV) := ⟨_, rfl⟩
  have hP := va_P_refn (g := fun i => some (gad q0 q1 a a2 aK aV (4 + i))) hP 3 rfl (fun i hi => by rcases (show i = 0 ∨ i = 1 ∨ i = 2 ∨ i = 3 ∨ i = 4 by omega) with rfl | rfl | rfl | rfl | rfl <;> rfl)
  have hD := va_D_refn (g := fun i => some (gad q0 q1 a a2 aK aV (4 + i))) hD 3 rfl
  have hP : va_P g.1 vwCl (wX g (fun _ _ => 0) ++ wM g 0 mu0) H := by rw [eg]; exact hP
  have hD : va_D (fun q : Nat => s.heap.size ≤ q) (wX g (fun _ _ => 0) ++ wM g 0 mu0) := by rw [eg]; exact hD
  have hK2 : va_K g.1 vwCl (ty3 g) s := by rw [eg]; exact hK
  have hE2 : ExX g (fun q : Nat => s.heap.size ≤ q) s := hE g (by rw [eg]; rfl) (by rw [eg]; rfl)
  have g0 : g.2.2 0 = q0 := by rw [eg]; rfl
  have g31 : g.2.2 31 = q1 := by rw [eg]; rfl
  clear eg
  have hi := inj_XM hD
  have ha := all_XM hD
  have CC : CX g (fun q : Nat => s.heap.size ≤ q) p s m #[Value.ref b] meth c cL_law 4 RL := ⟨hx, hb, hml, hown, htb, hK2, hi, fun k hk => ha (0 + k) (by omega), fun _ h => h, hlocks, hE2⟩
  have CC2 : CM g (fun q : Nat => s.heap.size ≤ q) p s m #[Value.ref b] meth c cL_law 4 RL := ⟨hx, hb, hml, hown, htb, hK2, hi, fun k hk => ha (31 + k) (by omega), fun _ h => h, hlocks⟩
  have hPX : va_P g.1 vwCl (wX g (fun _ _ => 0)) H := fun k q hq => hP k q (by rw [List.getElem?_append_left ((List.getElem?_eq_some_iff.mp hq).1)]; exact hq)
  have hPM : va_P g.1 vwCl (wM g 0 mu0) H := fun k q hq => hP (31 + k) q (by rw [List.getElem?_append_right (Nat.le_add_right 31 k), show 31 + k - (wX g (fun _ _ => 0)).length = k from Nat.add_sub_cancel_left 31 k]; exact hq)
  refine W.widen (k := 41) (n := 10789) (Nat.le_of_ble_eq_true rfl) (Nat.le_of_ble_eq_true rfl) ?_
  refine lv_astore_n (lv' := [(2, .ref q1), (1, .ref q0), (0, .ref b)]) hx hb dL_law_15 rfl hl (by decide) rfl (fun ls hl => ?_)
  refine lv_iconst (v := 0) hx hb dL_law_16 (by decide) ?_
  refine lv_istore_n (lv' := [(3, .int 0), (2, .ref q1), (1, .ref q0), (0, .ref b)]) hx hb dL_law_17 rfl hl (by decide) rfl (fun ls hl => ?_)
  exact law_loop CC CC2 hr hX hbl hL (N := 5000) (Nat.le_refl _) (L + 1) 0 0 (fun _ _ => 0) mu0 0 H locs ls (by omega) (by omega) (by omega) rel_start (by rw [g0, g31]; exact hl) hPX hPM hS
