section WLK
variable {p : Program} {l : Launch} {e : Env} {s : State} {m : MethodId} {args : Array Value} {below : List Frame} {meth : Method} {c : Code} {g : Gx} {A : Nat → Prop}
abbrev rm_X0_append : Room := { frames := 0, cells := 0, slots := 0, locals := 0 }
set_option maxHeartbeats 4000000 in
set_option maxRecDepth 100000 in
theorem c_X0_append (l : Launch) (g : Gx) (sz : Nat) (σ : St) (x1 : Int32) (x2 : Int32) (x3 : Int32) {u : St} (hD : D_X0_append σ x1 x2 x3 = some u) : Met l yX0_append (Cond.code yX0_append cX0_append 4 (none) :: tb) rm_X0_append (PcX g [.ref (g.2.2 10), .int x1, .int x2, .int x3] σ sz) (QvX g (AX g sz) u) 0 0 (AX g sz) := by
  refine Met.ofW (cc := cX0_append) (maxL := 4) (ret := none) (by decide) rfl ?_
  intro p e s m args below meth c s₁ B hml hv
  have hv0 := hv
  obtain ⟨rfl, hsz, hP, -⟩ := hv
  subst hsz
  have C : CX g (AX g s.heap.size) p s m _ meth c cX0_append 4 RX0 := CX.of B hml (fun w h => List.mem_cons_of_mem _ h) rfl hv0
  have hr := B.returns
  have hS : va_S (AX g s.heap.size) s.heap s.heap [] := va_S.rf
  have hl := lv_entry ([.ref (g.2.2 10), .int x1, .int x2, .int x3]) (n := 4) (Nat.le_of_ble_eq_true rfl)
  rw [lg_entry_eq]
  generalize (lg_sl ([.ref (g.2.2 10), .int x1, .int x2, .int x3]) ++ List.replicate (4 - (lg_sl ([.ref (g.2.2 10), .int x1, .int x2, .int x3])).length) Slot.unset).toArray = ls at hl ⊢
  have hl : lv_has ls 4 [(0, .ref (g.2.2 10)), (1, .int x1), (2, .int x2), (3, .int x3)] := hl
  obtain ⟨H, hH⟩ : ∃ H, H = s.heap := ⟨_, rfl⟩
  have hP : va_P g.1 vwCl (wX g σ) H := by rw [hH]; exact hP
  have hS : va_S (AX g s.heap.size) s.heap H [] := by rw [hH]; exact hS
  refine wH hH ?_
  obtain ⟨locs, hlo⟩ : ∃ locs : List Loc, locs = [] := ⟨_, rfl⟩
  rw [← hlo] at hS
  refine wL hlo ?_
  unfold D_X0_append at hD
  refine lv_aload_n C.1 C.2.1 dX0_append_0 rfl (lv_at hl 0 rfl) ?_
  refine gf_X0_24_10 C hP dX0_append_1 ?_
  refine lv_bipush (v := (12 : Int32)) C.1 C.2.1 dX0_append_4 (by decide) ?_
  refine lv_icmp_ge (tgt := 49) C.1 C.2.1 dX0_append_6 (by decide) (fun c1 => ?_) (fun c1 => ?_)
  · have hD := b_t c1 hD
    cases hD
    exact rv_X C hr hP hS dX0_append_49
  · have hD := b_f c1 hD
    refine lv_aload_n C.1 C.2.1 dX0_append_9 rfl (lv_at hl 0 rfl) ?_
    refine gf_X0_15_10 C hP dX0_append_10 ?_
    refine lv_aload_n C.1 C.2.1 dX0_append_13 rfl (lv_at hl 0 rfl) ?_
    refine gf_X0_24_10 C hP dX0_append_14 ?_
    refine lv_iload_n C.1 C.2.1 dX0_append_17 rfl (lv_at hl 1 rfl) ?_
    obtain ⟨hi2, hD⟩ := gi_some hD
    refine isX C hP hS 12 rfl hi2 dX0_append_18 st_12 (fun H locs hP hS => ?_)
    refine lv_aload_n C.1 C.2.1 dX0_append_19 rfl (lv_at hl 0 rfl) ?_
    refine gf_X0_18_10 C hP dX0_append_20 ?_
    refine lv_aload_n C.1 C.2.1 dX0_append_23 rfl (lv_at hl 0 rfl) ?_
    refine gf_X0_24_10 C hP dX0_append_24 ?_
    refine w_rd (show (pt σ 12 ((σ 10 5).toNatClampNeg) x1) 10 5 = σ 10 5 from rfl) ?_
    refine lv_iload_n C.1 C.2.1 dX0_append_27 rfl (lv_at hl 2 rfl) ?_
    obtain ⟨hi3, hD⟩ := gi_some hD
    refine isX C hP hS 13 rfl hi3 dX0_append_28 st_13 (fun H locs hP hS => ?_)
    refine lv_aload_n C.1 C.2.1 dX0_append_29 rfl (lv_at hl 0 rfl) ?_
    refine gf_X0_21_10 C hP dX0_append_30 ?_
    refine lv_aload_n C.1 C.2.1 dX0_append_33 rfl (lv_at hl 0 rfl) ?_
    refine gf_X0_24_10 C hP dX0_append_34 ?_
    refine w_rd (show (pt (pt σ 12 ((σ 10 5).toNatClampNeg) x1) 13 ((σ 10 5).toNatClampNeg) x2) 10 5 = σ 10 5 from rfl) ?_
    refine lv_iload_n C.1 C.2.1 dX0_append_37 rfl (lv_at hl 3 rfl) ?_
    obtain ⟨hi4, hD⟩ := gi_some hD
    refine isX C hP hS 14 rfl hi4 dX0_append_38 st_14 (fun H locs hP hS => ?_)
    refine lv_aload_n C.1 C.2.1 dX0_append_39 rfl (lv_at hl 0 rfl) ?_
    refine lv_dup C.1 C.2.1 dX0_append_40 rfl ?_
    refine gf_X0_24_10 C hP dX0_append_41 ?_
    refine w_rd (show (pt (pt (pt σ 12 ((σ 10 5).toNatClampNeg) x1) 13 ((σ 10 5).toNatClampNeg) x2) 14 ((σ 10 5).toNatClampNeg) x3) 10 5 = σ 10 5 from rfl) ?_
    refine lv_iconst (v := (1 : Int32)) C.1 C.2.1 dX0_append_44 (by decide) ?_
    refine lv_iadd C.1 C.2.1 dX0_append_45 ?_
    refine pf_X0_24_10 C hP hS dX0_append_46 (fun H locs hP hS => ?_)
    cases hD
    exact rv_X C hr hP hS dX0_append_49
abbrev rm_X0_shownTo : Room := { frames := 0, cells := 0, slots := 0, locals := 0 }
set_option maxHeartbeats 4000000 in
set_option maxRecDepth 100000 in
theorem w_L_X0_shownTo_4 (C : CX g A p s m args meth c cX0_shownTo 4 RX0) (hr : meth.sig.returnType = some .int) (N : Nat) (σ : St) {r : Int32} (x1 : Int32) : ∀ (n : Nat) (x2 : Int32) (x3 : Int32) (H : Heap) (locs : List Loc) (ls : Array Slot), lv_has ls 4 [(0, .ref (g.2.2 10)), (1, .int x1), (2, .int x2), (3, .int x3)] → va_P g.1 vwCl (wX g σ) H → va_S A s.heap H locs → L_X0_shownTo_4 N σ x1 n x2 x3 = some r → W p l e rm_X0_shownTo s m args below meth c H locs 0 0 (MQ below (QiX g A r σ) args s 0 0 A) (F0 m 4 ls []) := by
  intro n
  induction n with
  | zero =>
    intro x2 x3 H locs ls hl hP hS hD
    rw [L_X0_shownTo_4] at hD
    cases hD
  | succ n ih =>
    intro x2 x3 H locs ls hl hP hS hD
    rw [L_X0_shownTo_4] at hD
    refine lv_iload_n C.1 C.2.1 dX0_shownTo_4 rfl (lv_at hl 3 rfl) ?_
    refine lv_aload_n C.1 C.2.1 dX0_shownTo_5 rfl (lv_at hl 0 rfl) ?_
    refine gf_X0_24_10 C hP dX0_shownTo_6 ?_
    refine lv_icmp_ge (tgt := 31) C.1 C.2.1 dX0_shownTo_9 (by decide) (fun c1 => ?_) (fun c1 => ?_)
    · have hD := b_t c1 hD
      refine lv_iload_n C.1 C.2.1 dX0_shownTo_31 rfl (lv_at hl 2 rfl) ?_
      cases hD
      exact ri_X C hr hP hS dX0_shownTo_32
    · have hD := b_f c1 hD
      refine lv_aload_n C.1 C.2.1 dX0_shownTo_12 rfl (lv_at hl 0 rfl) ?_
      refine gf_X0_18_10 C hP dX0_shownTo_13 ?_
      refine lv_iload_n C.1 C.2.1 dX0_shownTo_16 rfl (lv_at hl 3 rfl) ?_
      obtain ⟨hi2, hD⟩ := gi_some hD
      refine iaX C hP 13 rfl hi2 dX0_shownTo_17 ?_
      refine lv_iload_n C.1 C.2.1 dX0_shownTo_18 rfl (lv_at hl 1 rfl) ?_
      refine lv_icmp_ne (tgt := 25) C.1 C.2.1 dX0_shownTo_19 (by decide) (fun c3 => ?_) (fun c3 => ?_)
      · have hD := b_f c3 hD
        refine lv_iinc (v := x3 + (1 : Int32)) (lv' := [(3, .int (x3 + (1 : Int32))), (0, .ref (g.2.2 10)), (1, .int x1), (2, .int x2)]) C.1 C.2.1 dX0_shownTo_25 hl (k := 3) rfl rfl (by decide) rfl (fun ls hl => ?_)
        refine lv_goto (tgt := 4) C.1 C.2.1 dX0_shownTo_28 (by decide) ?_
        exact ih x2 (x3 + (1 : Int32)) H locs ls (lv_sub hl [1, 2, 3, 0] rfl) hP hS hD
      · have hD := b_t c3 hD
        refine lv_iinc (v := x2 + (1 : Int32)) (lv' := [(2, .int (x2 + (1 : Int32))), (0, .ref (g.2.2 10)), (1, .int x1), (3, .int x3)]) C.1 C.2.1 dX0_shownTo_22 hl (k := 2) rfl rfl (by decide) rfl (fun ls hl => ?_)
        refine lv_iinc (v := x3 + (1 : Int32)) (lv' := [(3, .int (x3 + (1 : Int32))), (2, .int (x2 + (1 : Int32))), (0, .ref (g.2.2 10)), (1, .int x1)]) C.1 C.2.1 dX0_shownTo_25 hl (k := 3) rfl rfl (by decide) rfl (fun ls hl => ?_)
        refine lv_goto (tgt := 4) C.1 C.2.1 dX0_shownTo_28 (by decide) ?_
        exact ih (x2 + (1 : Int32)) (x3 + (1 : Int32)) H locs ls (lv_sub hl [2, 3, 1, 0] rfl) hP hS hD
set_option maxHeartbeats 4000000 in
set_option maxRecDepth 100000 in
theorem c_X0_shownTo (l : Launch) (g : Gx) (sz : Nat) (N : Nat) (σ : St) (x1 : Int32) {r : Int32} (hD : D_X0_shownTo N σ x1 = some r) : Met l yX0_shownTo (Cond.code yX0_shownTo cX0_shownTo 4 (some .int) :: tb) rm_X0_shownTo (PcX g [.ref (g.2.2 10), .int x1] σ sz) (QiX g (AX g sz) r σ) 0 0 (AX g sz) := by
  refine Met.ofW (cc := cX0_shownTo) (maxL := 4) (ret := some .int) (by decide) rfl ?_
  intro p e s m args below meth c s₁ B hml hv
  have hv0 := hv
  obtain ⟨rfl, hsz, hP, -⟩ := hv
  subst hsz
  have C : CX g (AX g s.heap.size) p s m _ meth c cX0_shownTo 4 RX0 := CX.of B hml (fun w h => List.mem_cons_of_mem _ h) rfl hv0
  have hr := B.returns
  have hS : va_S (AX g s.heap.size) s.heap s.heap [] := va_S.rf
  have hl := lv_entry ([.ref (g.2.2 10), .int x1]) (n := 4) (Nat.le_of_ble_eq_true rfl)
  rw [lg_entry_eq]
  generalize (lg_sl ([.ref (g.2.2 10), .int x1]) ++ List.replicate (4 - (lg_sl ([.ref (g.2.2 10), .int x1])).length) Slot.unset).toArray = ls at hl ⊢
  have hl : lv_has ls 4 [(0, .ref (g.2.2 10)), (1, .int x1)] := hl
  obtain ⟨H, hH⟩ : ∃ H, H = s.heap := ⟨_, rfl⟩
  have hP : va_P g.1 vwCl (wX g σ) H := by rw [hH]; exact hP
  have hS : va_S (AX g s.heap.size) s.heap H [] := by rw [hH]; exact hS
  refine wH hH ?_
  obtain ⟨locs, hlo⟩ : ∃ locs : List Loc, locs = [] := ⟨_, rfl⟩
  rw [← hlo] at hS
  refine wL hlo ?_
  unfold D_X0_shownTo at hD
  refine lv_iconst (v := (0 : Int32)) C.1 C.2.1 dX0_shownTo_0 (by decide) ?_
  refine lv_istore_n (lv' := [(2, .int (0 : Int32)), (0, .ref (g.2.2 10)), (1, .int x1)]) C.1 C.2.1 dX0_shownTo_1 rfl hl (by decide) rfl (fun ls hl => ?_)
  refine lv_iconst (v := (0 : Int32)) C.1 C.2.1 dX0_shownTo_2 (by decide) ?_
  refine lv_istore_n (lv' := [(3, .int (0 : Int32)), (2, .int (0 : Int32)), (0, .ref (g.2.2 10)), (1, .int x1)]) C.1 C.2.1 dX0_shownTo_3 rfl hl (by decide) rfl (fun ls hl => ?_)
  exact w_L_X0_shownTo_4 C hr N σ x1 N (0 : Int32) (0 : Int32) H locs ls (lv_sub hl [2, 3, 1, 0] rfl) hP hS hD
abbrev rm_X0_take_k : Room := { frames := 1, cells := 0, slots := 0, locals := 40 }
set_option maxHeartbeats 4000000 in
set_option maxRecDepth 100000 in
theorem c_X0_take_k (l : Launch) (g : Gx) (sz : Nat) (σ : St) {u : St} (hD : D_X0_take_k σ = some u) : Met l yX0_take (Cond.code yX0_take cX0_take 2 (none) :: tb) rm_X0_take_k (PcX g [.ref (g.2.2 15), .ref (g.2.2 10)] σ sz) (QvX g (AX g sz) u) 0 0 (AX g sz) := by
  refine Met.ofW (cc := cX0_take) (maxL := 2) (ret := none) (by decide) rfl ?_
  intro p e s m args below meth c s₁ B hml hv
  have hv0 := hv
  obtain ⟨rfl, hsz, hP, -⟩ := hv
  subst hsz
  have C : CX g (AX g s.heap.size) p s m _ meth c cX0_take 2 RX0 := CX.of B hml (fun w h => List.mem_cons_of_mem _ h) rfl hv0
  have hr := B.returns
  have hS : va_S (AX g s.heap.size) s.heap s.heap [] := va_S.rf
  have hl := lv_entry ([.ref (g.2.2 15), .ref (g.2.2 10)]) (n := 2) (Nat.le_of_ble_eq_true rfl)
  rw [lg_entry_eq]
  generalize (lg_sl ([.ref (g.2.2 15), .ref (g.2.2 10)]) ++ List.replicate (2 - (lg_sl ([.ref (g.2.2 15), .ref (g.2.2 10)])).length) Slot.unset).toArray = ls at hl ⊢
  have hl : lv_has ls 2 [(0, .ref (g.2.2 15)), (1, .ref (g.2.2 10))] := hl
  obtain ⟨H, hH⟩ : ∃ H, H = s.heap := ⟨_, rfl⟩
  have hP : va_P g.1 vwCl (wX g σ) H := by rw [hH]; exact hP
  have hS : va_S (AX g s.heap.size) s.heap H [] := by rw [hH]; exact hS
  refine wH hH ?_
  obtain ⟨locs, hlo⟩ : ∃ locs : List Loc, locs = [] := ⟨_, rfl⟩
  rw [← hlo] at hS
  refine wL hlo ?_
  unfold D_X0_take_k at hD
  refine lv_aload_n C.1 C.2.1 dX0_take_0 rfl (lv_at hl 1 rfl) ?_
  refine gf_X0_9_10 C hP dX0_take_1 ?_
  refine lv_iconst (v := (0 : Int32)) C.1 C.2.1 dX0_take_4 (by decide) ?_
  refine lv_aload_n C.1 C.2.1 dX0_take_5 rfl (lv_at hl 0 rfl) ?_
  refine gf_X0_9_15 C hP dX0_take_6 ?_
  refine lv_iconst (v := (0 : Int32)) C.1 C.2.1 dX0_take_9 (by decide) ?_
  refine lv_iconst (v := (3 : Int32)) C.1 C.2.1 dX0_take_10 (by decide) ?_
  refine cp_X (n := (3 : Int32)) (n0 := 3) C kw_X0_28 hP hS 11 16 rfl rfl (by decide) (by decide) hl.1 (Nat.le_of_ble_eq_true rfl) (by decide +kernel) dX0_take_11 rfl (fun H locs hP hS => ?_)
  refine lv_aload_n C.1 C.2.1 dX0_take_14 rfl (lv_at hl 1 rfl) ?_
  refine gf_X0_15_10 C hP dX0_take_15 ?_
  refine lv_iconst (v := (0 : Int32)) C.1 C.2.1 dX0_take_18 (by decide) ?_
  refine lv_aload_n C.1 C.2.1 dX0_take_19 rfl (lv_at hl 0 rfl) ?_
  refine gf_X0_15_15 C hP dX0_take_20 ?_
  refine lv_iconst (v := (0 : Int32)) C.1 C.2.1 dX0_take_23 (by decide) ?_
  refine lv_bipush (v := (12 : Int32)) C.1 C.2.1 dX0_take_24 (by decide) ?_
  refine cp_X (n := (12 : Int32)) (n0 := 12) C kw_X0_28 hP hS 12 17 rfl rfl (by decide) (by decide) hl.1 (Nat.le_of_ble_eq_true rfl) (by decide +kernel) dX0_take_26 rfl (fun H locs hP hS => ?_)
  refine lv_aload_n C.1 C.2.1 dX0_take_29 rfl (lv_at hl 1 rfl) ?_
  refine gf_X0_18_10 C hP dX0_take_30 ?_
  refine lv_iconst (v := (0 : Int32)) C.1 C.2.1 dX0_take_33 (by decide) ?_
  refine lv_aload_n C.1 C.2.1 dX0_take_34 rfl (lv_at hl 0 rfl) ?_
  refine gf_X0_18_15 C hP dX0_take_35 ?_
  refine lv_iconst (v := (0 : Int32)) C.1 C.2.1 dX0_take_38 (by decide) ?_
  refine lv_bipush (v := (12 : Int32)) C.1 C.2.1 dX0_take_39 (by decide) ?_
  refine cp_X (n := (12 : Int32)) (n0 := 12) C kw_X0_28 hP hS 13 18 rfl rfl (by decide) (by decide) hl.1 (Nat.le_of_ble_eq_true rfl) (by decide +kernel) dX0_take_41 rfl (fun H locs hP hS => ?_)
  refine lv_aload_n C.1 C.2.1 dX0_take_44 rfl (lv_at hl 1 rfl) ?_
  refine gf_X0_21_10 C hP dX0_take_45 ?_
  refine lv_iconst (v := (0 : Int32)) C.1 C.2.1 dX0_take_48 (by decide) ?_
  refine lv_aload_n C.1 C.2.1 dX0_take_49 rfl (lv_at hl 0 rfl) ?_
  refine gf_X0_21_15 C hP dX0_take_50 ?_
  refine lv_iconst (v := (0 : Int32)) C.1 C.2.1 dX0_take_53 (by decide) ?_
  refine lv_bipush (v := (12 : Int32)) C.1 C.2.1 dX0_take_54 (by decide) ?_
  refine cp_X (n := (12 : Int32)) (n0 := 12) C kw_X0_28 hP hS 14 19 rfl rfl (by decide) (by decide) hl.1 (Nat.le_of_ble_eq_true rfl) (by decide +kernel) dX0_take_56 rfl (fun H locs hP hS => ?_)
  refine lv_aload_n C.1 C.2.1 dX0_take_59 rfl (lv_at hl 0 rfl) ?_
  refine lv_aload_n C.1 C.2.1 dX0_take_60 rfl (lv_at hl 1 rfl) ?_
  refine gf_X0_34_10 C hP dX0_take_61 ?_
  refine w_rd (show (pa (pa (pa (pa σ 16 (va_cpy (σ 11) (σ 16) 0 0 3)) 17 (va_cpy (σ 12) (σ 17) 0 0 12)) 18 (va_cpy (σ 13) (σ 18) 0 0 12)) 19 (va_cpy (σ 14) (σ 19) 0 0 12)) 10 4 = σ 10 4 from rfl) ?_
  refine pf_X0_34_15 C hP hS dX0_take_64 (fun H locs hP hS => ?_)
  refine lv_aload_n C.1 C.2.1 dX0_take_67 rfl (lv_at hl 0 rfl) ?_
  refine lv_aload_n C.1 C.2.1 dX0_take_68 rfl (lv_at hl 1 rfl) ?_
  refine gf_X0_24_10 C hP dX0_take_69 ?_
  refine w_rd (show (pt (pa (pa (pa (pa σ 16 (va_cpy (σ 11) (σ 16) 0 0 3)) 17 (va_cpy (σ 12) (σ 17) 0 0 12)) 18 (va_cpy (σ 13) (σ 18) 0 0 12)) 19 (va_cpy (σ 14) (σ 19) 0 0 12)) 15 4 (σ 10 4)) 10 5 = σ 10 5 from rfl) ?_
  refine pf_X0_24_15 C hP hS dX0_take_72 (fun H locs hP hS => ?_)
  cases hD
  exact rv_X C hr hP hS dX0_take_75
abbrev rm_X0_take_n : Room := { frames := 1, cells := 0, slots := 0, locals := 40 }
set_option maxHeartbeats 4000000 in
set_option maxRecDepth 100000 in
theorem c_X0_take_n (l : Launch) (g : Gx) (sz : Nat) (σ : St) {u : St} (hD : D_X0_take_n σ = some u) : Met l yX0_take (Cond.code yX0_take cX0_take 2 (none) :: tb) rm_X0_take_n (PcX g [.ref (g.2.2 10), .ref (g.2.2 15)] σ sz) (QvX g (AX g sz) u) 0 0 (AX g sz) := by
  refine Met.ofW (cc := cX0_take) (maxL := 2) (ret := none) (by decide) rfl ?_
  intro p e s m args below meth c s₁ B hml hv
  have hv0 := hv
  obtain ⟨rfl, hsz, hP, -⟩ := hv
  subst hsz
  have C : CX g (AX g s.heap.size) p s m _ meth c cX0_take 2 RX0 := CX.of B hml (fun w h => List.mem_cons_of_mem _ h) rfl hv0
  have hr := B.returns
  have hS : va_S (AX g s.heap.size) s.heap s.heap [] := va_S.rf
  have hl := lv_entry ([.ref (g.2.2 10), .ref (g.2.2 15)]) (n := 2) (Nat.le_of_ble_eq_true rfl)
  rw [lg_entry_eq]
  generalize (lg_sl ([.ref (g.2.2 10), .ref (g.2.2 15)]) ++ List.replicate (2 - (lg_sl ([.ref (g.2.2 10), .ref (g.2.2 15)])).length) Slot.unset).toArray = ls at hl ⊢
  have hl : lv_has ls 2 [(0, .ref (g.2.2 10)), (1, .ref (g.2.2 15))] := hl
  obtain ⟨H, hH⟩ : ∃ H, H = s.heap := ⟨_, rfl⟩
  have hP : va_P g.1 vwCl (wX g σ) H := by rw [hH]; exact hP
  have hS : va_S (AX g s.heap.size) s.heap H [] := by rw [hH]; exact hS
  refine wH hH ?_
  obtain ⟨locs, hlo⟩ : ∃ locs : List Loc, locs = [] := ⟨_, rfl⟩
  rw [← hlo] at hS
  refine wL hlo ?_
  unfold D_X0_take_n at hD
  refine lv_aload_n C.1 C.2.1 dX0_take_0 rfl (lv_at hl 1 rfl) ?_
  refine gf_X0_9_15 C hP dX0_take_1 ?_
  refine lv_iconst (v := (0 : Int32)) C.1 C.2.1 dX0_take_4 (by decide) ?_
  refine lv_aload_n C.1 C.2.1 dX0_take_5 rfl (lv_at hl 0 rfl) ?_
  refine gf_X0_9_10 C hP dX0_take_6 ?_
  refine lv_iconst (v := (0 : Int32)) C.1 C.2.1 dX0_take_9 (by decide) ?_
  refine lv_iconst (v := (3 : Int32)) C.1 C.2.1 dX0_take_10 (by decide) ?_
  refine cp_X (n := (3 : Int32)) (n0 := 3) C kw_X0_28 hP hS 16 11 rfl rfl (by decide) (by decide) hl.1 (Nat.le_of_ble_eq_true rfl) (by decide +kernel) dX0_take_11 rfl (fun H locs hP hS => ?_)
  refine lv_aload_n C.1 C.2.1 dX0_take_14 rfl (lv_at hl 1 rfl) ?_
  refine gf_X0_15_15 C hP dX0_take_15 ?_
  refine lv_iconst (v := (0 : Int32)) C.1 C.2.1 dX0_take_18 (by decide) ?_
  refine lv_aload_n C.1 C.2.1 dX0_take_19 rfl (lv_at hl 0 rfl) ?_
  refine gf_X0_15_10 C hP dX0_take_20 ?_
  refine lv_iconst (v := (0 : Int32)) C.1 C.2.1 dX0_take_23 (by decide) ?_
  refine lv_bipush (v := (12 : Int32)) C.1 C.2.1 dX0_take_24 (by decide) ?_
  refine cp_X (n := (12 : Int32)) (n0 := 12) C kw_X0_28 hP hS 17 12 rfl rfl (by decide) (by decide) hl.1 (Nat.le_of_ble_eq_true rfl) (by decide +kernel) dX0_take_26 rfl (fun H locs hP hS => ?_)
  refine lv_aload_n C.1 C.2.1 dX0_take_29 rfl (lv_at hl 1 rfl) ?_
  refine gf_X0_18_15 C hP dX0_take_30 ?_
  refine lv_iconst (v := (0 : Int32)) C.1 C.2.1 dX0_take_33 (by decide) ?_
  refine lv_aload_n C.1 C.2.1 dX0_take_34 rfl (lv_at hl 0 rfl) ?_
  refine gf_X0_18_10 C hP dX0_take_35 ?_
  refine lv_iconst (v := (0 : Int32)) C.1 C.2.1 dX0_take_38 (by decide) ?_
  refine lv_bipush (v := (12 : Int32)) C.1 C.2.1 dX0_take_39 (by decide) ?_
  refine cp_X (n := (12 : Int32)) (n0 := 12) C kw_X0_28 hP hS 18 13 rfl rfl (by decide) (by decide) hl.1 (Nat.le_of_ble_eq_true rfl) (by decide +kernel) dX0_take_41 rfl (fun H locs hP hS => ?_)
  refine lv_aload_n C.1 C.2.1 dX0_take_44 rfl (lv_at hl 1 rfl) ?_
  refine gf_X0_21_15 C hP dX0_take_45 ?_
  refine lv_iconst (v := (0 : Int32)) C.1 C.2.1 dX0_take_48 (by decide) ?_
  refine lv_aload_n C.1 C.2.1 dX0_take_49 rfl (lv_at hl 0 rfl) ?_
  refine gf_X0_21_10 C hP dX0_take_50 ?_
  refine lv_iconst (v := (0 : Int32)) C.1 C.2.1 dX0_take_53 (by decide) ?_
  refine lv_bipush (v := (12 : Int32)) C.1 C.2.1 dX0_take_54 (by decide) ?_
  refine cp_X (n := (12 : Int32)) (n0 := 12) C kw_X0_28 hP hS 19 14 rfl rfl (by decide) (by decide) hl.1 (Nat.le_of_ble_eq_true rfl) (by decide +kernel) dX0_take_56 rfl (fun H locs hP hS => ?_)
  refine lv_aload_n C.1 C.2.1 dX0_take_59 rfl (lv_at hl 0 rfl) ?_
  refine lv_aload_n C.1 C.2.1 dX0_take_60 rfl (lv_at hl 1 rfl) ?_
  refine gf_X0_34_15 C hP dX0_take_61 ?_
  refine w_rd (show (pa (pa (pa (pa σ 11 (va_cpy (σ 16) (σ 11) 0 0 3)) 12 (va_cpy (σ 17) (σ 12) 0 0 12)) 13 (va_cpy (σ 18) (σ 13) 0 0 12)) 14 (va_cpy (σ 19) (σ 14) 0 0 12)) 15 4 = σ 15 4 from rfl) ?_
  refine pf_X0_34_10 C hP hS dX0_take_64 (fun H locs hP hS => ?_)
  refine lv_aload_n C.1 C.2.1 dX0_take_67 rfl (lv_at hl 0 rfl) ?_
  refine lv_aload_n C.1 C.2.1 dX0_take_68 rfl (lv_at hl 1 rfl) ?_
  refine gf_X0_24_15 C hP dX0_take_69 ?_
  refine w_rd (show (pt (pa (pa (pa (pa σ 11 (va_cpy (σ 16) (σ 11) 0 0 3)) 12 (va_cpy (σ 17) (σ 12) 0 0 12)) 13 (va_cpy (σ 18) (σ 13) 0 0 12)) 14 (va_cpy (σ 19) (σ 14) 0 0 12)) 10 4 (σ 15 4)) 15 5 = σ 15 5 from rfl) ?_
  refine pf_X0_24_10 C hP hS dX0_take_72 (fun H locs hP hS => ?_)
  cases hD
  exact rv_X C hr hP hS dX0_take_75
abbrev rm_X11_isJudge : Room := { frames := 0, cells := 0, slots := 0, locals := 0 }
set_option maxHeartbeats 4000000 in
set_option maxRecDepth 100000 in
theorem c_X11_isJudge (l : Launch) (g : Gx) (sz : Nat) (σ : St) (x1 : Int32) {r : Int32} (hD : D_X11_isJudge σ x1 = some r) : Met l yX11_isJudge (Cond.code yX11_isJudge cX11_isJudge 2 (some .boolean) :: tb) rm_X11_isJudge (PcX g [.ref (g.2.2 0), .int x1] σ sz) (QiX g (AX g sz) r σ) 0 0 (AX g sz) := by
  refine Met.ofW (cc := cX11_isJudge) (maxL := 2) (ret := some .boolean) (by decide) rfl ?_
  intro p e s m args below meth c s₁ B hml hv
  have hv0 := hv
  obtain ⟨rfl, hsz, hP, -⟩ := hv
  subst hsz
  have C : CX g (AX g s.heap.size) p s m _ meth c cX11_isJudge 2 RX11 := CX.of B hml (fun w h => List.mem_cons_of_mem _ h) rfl hv0
  have hr := B.returns
  have hS : va_S (AX g s.heap.size) s.heap s.heap [] := va_S.rf
  have hl := lv_entry ([.ref (g.2.2 0), .int x1]) (n := 2) (Nat.le_of_ble_eq_true rfl)
  rw [lg_entry_eq]
  generalize (lg_sl ([.ref (g.2.2 0), .int x1]) ++ List.replicate (2 - (lg_sl ([.ref (g.2.2 0), .int x1])).length) Slot.unset).toArray = ls at hl ⊢
  have hl : lv_has ls 2 [(0, .ref (g.2.2 0)), (1, .int x1)] := hl
  obtain ⟨H, hH⟩ : ∃ H, H = s.heap := ⟨_, rfl⟩
  have hP : va_P g.1 vwCl (wX g σ) H := by rw [hH]; exact hP
  have hS : va_S (AX g s.heap.size) s.heap H [] := by rw [hH]; exact hS
  refine wH hH ?_
  obtain ⟨locs, hlo⟩ : ∃ locs : List Loc, locs = [] := ⟨_, rfl⟩
  rw [← hlo] at hS
  refine wL hlo ?_
  unfold D_X11_isJudge at hD
  refine lv_iload_n C.1 C.2.1 dX11_isJudge_0 rfl (lv_at hl 1 rfl) ?_
  refine lv_if_lt (tgt := 16) C.1 C.2.1 dX11_isJudge_1 (by decide) (fun c1 => ?_) (fun c1 => ?_)
  · have hD := b_t c1 hD
    refine lv_iconst (v := (0 : Int32)) C.1 C.2.1 dX11_isJudge_16 (by decide) ?_
    cases hD
    exact rz_X C hr (Or.inl rfl) hP hS dX11_isJudge_17
  · have hD := b_f c1 hD
    refine lv_iload_n C.1 C.2.1 dX11_isJudge_4 rfl (lv_at hl 1 rfl) ?_
    refine lv_aload_n C.1 C.2.1 dX11_isJudge_5 rfl (lv_at hl 0 rfl) ?_
    refine gf_X11_110_0 C hP dX11_isJudge_6 ?_
    refine lv_icmp_ge (tgt := 16) C.1 C.2.1 dX11_isJudge_9 (by decide) (fun c2 => ?_) (fun c2 => ?_)
    · have hD := b_t c2 hD
      refine lv_iconst (v := (0 : Int32)) C.1 C.2.1 dX11_isJudge_16 (by decide) ?_
      cases hD
      exact rz_X C hr (Or.inl rfl) hP hS dX11_isJudge_17
    · have hD := b_f c2 hD
      refine lv_iconst (v := (1 : Int32)) C.1 C.2.1 dX11_isJudge_12 (by decide) ?_
      refine lv_goto (tgt := 17) C.1 C.2.1 dX11_isJudge_13 (by decide) ?_
      cases hD
      exact rz_X C hr (Or.inr rfl) hP hS dX11_isJudge_17
abbrev rm_X11_isKind : Room := { frames := 0, cells := 0, slots := 0, locals := 0 }
set_option maxHeartbeats 4000000 in
set_option maxRecDepth 100000 in
theorem c_X11_isKind (l : Launch) (g : Gx) (sz : Nat) (σ : St) (x0 : Int32) {r : Int32} (hD : D_X11_isKind x0 = some r) : Met l yX11_isKind (Cond.code yX11_isKind cX11_isKind 1 (some .boolean) :: tb) rm_X11_isKind (PcX g [.int x0] σ sz) (QiX g (AX g sz) r σ) 0 0 (AX g sz) := by
  refine Met.ofW (cc := cX11_isKind) (maxL := 1) (ret := some .boolean) (by decide) rfl ?_
  intro p e s m args below meth c s₁ B hml hv
  have hv0 := hv
  obtain ⟨rfl, hsz, hP, -⟩ := hv
  subst hsz
  have C : CX g (AX g s.heap.size) p s m _ meth c cX11_isKind 1 RX11 := CX.of B hml (fun w h => List.mem_cons_of_mem _ h) rfl hv0
  have hr := B.returns
  have hS : va_S (AX g s.heap.size) s.heap s.heap [] := va_S.rf
  have hl := lv_entry ([.int x0]) (n := 1) (Nat.le_of_ble_eq_true rfl)
  rw [lg_entry_eq]
  generalize (lg_sl ([.int x0]) ++ List.replicate (1 - (lg_sl ([.int x0])).length) Slot.unset).toArray = ls at hl ⊢
  have hl : lv_has ls 1 [(0, .int x0)] := hl
  obtain ⟨H, hH⟩ : ∃ H, H = s.heap := ⟨_, rfl⟩
  have hP : va_P g.1 vwCl (wX g σ) H := by rw [hH]; exact hP
  have hS : va_S (AX g s.heap.size) s.heap H [] := by rw [hH]; exact hS
  refine wH hH ?_
  obtain ⟨locs, hlo⟩ : ∃ locs : List Loc, locs = [] := ⟨_, rfl⟩
  rw [← hlo] at hS
  refine wL hlo ?_
  unfold D_X11_isKind at hD
  refine lv_iload_n C.1 C.2.1 dX11_isKind_0 rfl (lv_at hl 0 rfl) ?_
  refine lv_if_lt (tgt := 13) C.1 C.2.1 dX11_isKind_1 (by decide) (fun c1 => ?_) (fun c1 => ?_)
  · have hD := b_t c1 hD
    refine lv_iconst (v := (0 : Int32)) C.1 C.2.1 dX11_isKind_13 (by decide) ?_
    cases hD
    exact rz_X C hr (Or.inl rfl) hP hS dX11_isKind_14
  · have hD := b_f c1 hD
    refine lv_iload_n C.1 C.2.1 dX11_isKind_4 rfl (lv_at hl 0 rfl) ?_
    refine lv_iconst (v := (5 : Int32)) C.1 C.2.1 dX11_isKind_5 (by decide) ?_
    refine lv_icmp_ge (tgt := 13) C.1 C.2.1 dX11_isKind_6 (by decide) (fun c2 => ?_) (fun c2 => ?_)
    · have hD := b_t c2 hD
      refine lv_iconst (v := (0 : Int32)) C.1 C.2.1 dX11_isKind_13 (by decide) ?_
      cases hD
      exact rz_X C hr (Or.inl rfl) hP hS dX11_isKind_14
    · have hD := b_f c2 hD
      refine lv_iconst (v := (1 : Int32)) C.1 C.2.1 dX11_isKind_9 (by decide) ?_
      refine lv_goto (tgt := 14) C.1 C.2.1 dX11_isKind_10 (by decide) ?_
      cases hD
      exact rz_X C hr (Or.inr rfl) hP hS dX11_isKind_14
abbrev rm_X11_judgeAt : Room := { frames := 0, cells := 0, slots := 0, locals := 0 }
set_option maxHeartbeats 4000000 in
set_option maxRecDepth 100000 in
theorem c_X11_judgeAt (l : Launch) (g : Gx) (sz : Nat) (σ : St) (x1 : Int32) {r : Nat} (hD : D_X11_judgeAt σ x1 = some r) : Met l yX11_judgeAt (Cond.code yX11_judgeAt cX11_judgeAt 2 (some (.object "JudgedRows$Judge")) :: tb) rm_X11_judgeAt (PcX g [.ref (g.2.2 0), .int x1] σ sz) (QrX g (AX g sz) (4 + r) σ) 0 0 (AX g sz) := by
  refine Met.ofW (cc := cX11_judgeAt) (maxL := 2) (ret := some (.object "JudgedRows$Judge")) (by decide) rfl ?_
  intro p e s m args below meth c s₁ B hml hv
  have hv0 := hv
  obtain ⟨rfl, hsz, hP, -⟩ := hv
  subst hsz
  have C : CX g (AX g s.heap.size) p s m _ meth c cX11_judgeAt 2 RX11 := CX.of B hml (fun w h => List.mem_cons_of_mem _ h) rfl hv0
  have hr := B.returns
  have hS : va_S (AX g s.heap.size) s.heap s.heap [] := va_S.rf
  have hl := lv_entry ([.ref (g.2.2 0), .int x1]) (n := 2) (Nat.le_of_ble_eq_true rfl)
  rw [lg_entry_eq]
  generalize (lg_sl ([.ref (g.2.2 0), .int x1]) ++ List.replicate (2 - (lg_sl ([.ref (g.2.2 0), .int x1])).length) Slot.unset).toArray = ls at hl ⊢
  have hl : lv_has ls 2 [(0, .ref (g.2.2 0)), (1, .int x1)] := hl
  obtain ⟨H, hH⟩ : ∃ H, H = s.heap := ⟨_, rfl⟩
  have hP : va_P g.1 vwCl (wX g σ) H := by rw [hH]; exact hP
  have hS : va_S (AX g s.heap.size) s.heap H [] := by rw [hH]; exact hS
  refine wH hH ?_
  obtain ⟨locs, hlo⟩ : ∃ locs : List Loc, locs = [] := ⟨_, rfl⟩
  rw [← hlo] at hS
  refine wL hlo ?_
  unfold D_X11_judgeAt at hD
  refine lv_aload_n C.1 C.2.1 dX11_judgeAt_0 rfl (lv_at hl 0 rfl) ?_
  refine gf_X11_31_0 C hP dX11_judgeAt_1 ?_
  refine lv_aload_n C.1 C.2.1 dX11_judgeAt_4 rfl (lv_at hl 0 rfl) ?_
  refine gf_X11_42_0 C hP dX11_judgeAt_5 ?_
  refine gf_X11_113_10 C hP dX11_judgeAt_8 ?_
  refine lv_iload_n C.1 C.2.1 dX11_judgeAt_11 rfl (lv_at hl 1 rfl) ?_
  obtain ⟨hi1, hD⟩ := gi_some hD
  refine iaX C hP 11 rfl hi1 dX11_judgeAt_12 ?_
  obtain ⟨hi2, hD⟩ := gi_some hD
  refine aj_X C hP hi2 dX11_judgeAt_13 ?_
  cases hD
  exact rr_X C hr hP hS dX11_judgeAt_14
abbrev rm_X11_isOf : Room := { frames := 0, cells := 0, slots := 0, locals := 0 }
set_option maxHeartbeats 4000000 in
set_option maxRecDepth 100000 in
theorem c_X11_isOf (l : Launch) (g : Gx) (sz : Nat) (σ : St) (k0 : Nat) (x1 : Int32) {r : Int32} (hD : D_X11_isOf k0 x1 = some r) : Met l yX11_isOf (Cond.code yX11_isOf cX11_isOf 2 (some .boolean) :: tb) rm_X11_isOf (PcX g [.ref (g.2.2 (4 + k0)), .int x1] σ sz) (QiX g (AX g sz) r σ) 0 0 (AX g sz) := by
  refine Met.ofW (cc := cX11_isOf) (maxL := 2) (ret := some .boolean) (by decide) rfl ?_
  intro p e s m args below meth c s₁ B hml hv
  have hv0 := hv
  obtain ⟨rfl, hsz, hP, -⟩ := hv
  subst hsz
  have C : CX g (AX g s.heap.size) p s m _ meth c cX11_isOf 2 RX11 := CX.of B hml (fun w h => List.mem_cons_of_mem _ h) rfl hv0
  have hr := B.returns
  have hS : va_S (AX g s.heap.size) s.heap s.heap [] := va_S.rf
  have hl := lv_entry ([.ref (g.2.2 (4 + k0)), .int x1]) (n := 2) (Nat.le_of_ble_eq_true rfl)
  rw [lg_entry_eq]
  generalize (lg_sl ([.ref (g.2.2 (4 + k0)), .int x1]) ++ List.replicate (2 - (lg_sl ([.ref (g.2.2 (4 + k0)), .int x1])).length) Slot.unset).toArray = ls at hl ⊢
  have hl : lv_has ls 2 [(0, .ref (g.2.2 (4 + k0))), (1, .int x1)] := hl
  obtain ⟨H, hH⟩ : ∃ H, H = s.heap := ⟨_, rfl⟩
  have hP : va_P g.1 vwCl (wX g σ) H := by rw [hH]; exact hP
  have hS : va_S (AX g s.heap.size) s.heap H [] := by rw [hH]; exact hS
  refine wH hH ?_
  obtain ⟨locs, hlo⟩ : ∃ locs : List Loc, locs = [] := ⟨_, rfl⟩
  rw [← hlo] at hS
  refine wL hlo ?_
  unfold D_X11_isOf at hD
  refine lv_iload_n C.1 C.2.1 dX11_isOf_0 rfl (lv_at hl 1 rfl) ?_
  by_cases c1 : x1 = (1 : Int32)
  · have hD := b_t c1 hD
    refine lv_tableIn (off := 31) (tgt := 32) C.1 C.2.1 dX11_isOf_1 (by rw [c1]; decide) (by rw [c1]; decide) (by rw [c1]; rfl) (by decide) ?_
    refine lv_aload_n C.1 C.2.1 dX11_isOf_32 rfl (lv_at hl 0 rfl) ?_
    obtain ⟨hi2, hD⟩ := gk_some hD
    refine io_1 C hi2 hP dX11_isOf_33 ?_
    obtain ⟨hb3, hD⟩ := gb_some hD
    cases hD
    exact rz_X C hr hb3 hP hS dX11_isOf_36
  · have hD := b_f c1 hD
    by_cases c4 : x1 = (2 : Int32)
    · have hD := b_t c4 hD
      refine lv_tableIn (off := 36) (tgt := 37) C.1 C.2.1 dX11_isOf_1 (by rw [c4]; decide) (by rw [c4]; decide) (by rw [c4]; rfl) (by decide) ?_
      refine lv_aload_n C.1 C.2.1 dX11_isOf_37 rfl (lv_at hl 0 rfl) ?_
      obtain ⟨hi5, hD⟩ := gk_some hD
      refine io_2 C hi5 hP dX11_isOf_38 ?_
      obtain ⟨hb6, hD⟩ := gb_some hD
      cases hD
      exact rz_X C hr hb6 hP hS dX11_isOf_41
    · have hD := b_f c4 hD
      by_cases c7 : x1 = (3 : Int32)
      · have hD := b_t c7 hD
        refine lv_tableIn (off := 41) (tgt := 42) C.1 C.2.1 dX11_isOf_1 (by rw [c7]; decide) (by rw [c7]; decide) (by rw [c7]; rfl) (by decide) ?_
        refine lv_aload_n C.1 C.2.1 dX11_isOf_42 rfl (lv_at hl 0 rfl) ?_
        obtain ⟨hi8, hD⟩ := gk_some hD
        refine io_3 C hi8 hP dX11_isOf_43 ?_
        obtain ⟨hb9, hD⟩ := gb_some hD
        cases hD
        exact rz_X C hr hb9 hP hS dX11_isOf_46
      · have hD := b_f c7 hD
        by_cases c10 : x1 = (4 : Int32)
        · have hD := b_t c10 hD
          refine lv_tableIn (off := 46) (tgt := 47) C.1 C.2.1 dX11_isOf_1 (by rw [c10]; decide) (by rw [c10]; decide) (by rw [c10]; rfl) (by decide) ?_
          refine lv_aload_n C.1 C.2.1 dX11_isOf_47 rfl (lv_at hl 0 rfl) ?_
          obtain ⟨hi11, hD⟩ := gk_some hD
          refine io_4 C hi11 hP dX11_isOf_48 ?_
          obtain ⟨hb12, hD⟩ := gb_some hD
          cases hD
          exact rz_X C hr hb12 hP hS dX11_isOf_51
        · have hD := b_f c10 hD
          refine lv_tableOut (tgt := 52) C.1 C.2.1 dX11_isOf_1 (by have q1 := lv_neT c1 (a := 1) (by decide); have q4 := lv_neT c4 (a := 2) (by decide); have q7 := lv_neT c7 (a := 3) (by decide); have q10 := lv_neT c10 (a := 4) (by decide); omega) (by decide) ?_
          refine lv_iconst (v := (1 : Int32)) C.1 C.2.1 dX11_isOf_52 (by decide) ?_
          cases hD
          exact rz_X C hr (Or.inr rfl) hP hS dX11_isOf_53
abbrev rm_X11_as : Room := { frames := 1, cells := 0, slots := 0, locals := 21 }
set_option maxHeartbeats 4000000 in
set_option maxRecDepth 100000 in
theorem c_X11_as (l : Launch) (g : Gx) (sz : Nat) (σ : St) (x1 : Int32) (x2 : Int32) {r : Int32} (hD : D_X11_as σ x1 x2 = some r) : Met l yX11_as (Cond.code yX11_as cX11_as 3 (some .int) :: tb) rm_X11_as (PcX g [.ref (g.2.2 0), .int x1, .int x2] σ sz) (QiX g (AX g sz) r σ) 0 0 (AX g sz) := by
  refine Met.ofW (cc := cX11_as) (maxL := 3) (ret := some .int) (by decide) rfl ?_
  intro p e s m args below meth c s₁ B hml hv
  have hv0 := hv
  obtain ⟨rfl, hsz, hP, -⟩ := hv
  subst hsz
  have C : CX g (AX g s.heap.size) p s m _ meth c cX11_as 3 RX11 := CX.of B hml (fun w h => List.mem_cons_of_mem _ h) rfl hv0
  have hr := B.returns
  have hS : va_S (AX g s.heap.size) s.heap s.heap [] := va_S.rf
  have hl := lv_entry ([.ref (g.2.2 0), .int x1, .int x2]) (n := 3) (Nat.le_of_ble_eq_true rfl)
  rw [lg_entry_eq]
  generalize (lg_sl ([.ref (g.2.2 0), .int x1, .int x2]) ++ List.replicate (3 - (lg_sl ([.ref (g.2.2 0), .int x1, .int x2])).length) Slot.unset).toArray = ls at hl ⊢
  have hl : lv_has ls 3 [(0, .ref (g.2.2 0)), (1, .int x1), (2, .int x2)] := hl
  obtain ⟨H, hH⟩ : ∃ H, H = s.heap := ⟨_, rfl⟩
  have hP : va_P g.1 vwCl (wX g σ) H := by rw [hH]; exact hP
  have hS : va_S (AX g s.heap.size) s.heap H [] := by rw [hH]; exact hS
  refine wH hH ?_
  obtain ⟨locs, hlo⟩ : ∃ locs : List Loc, locs = [] := ⟨_, rfl⟩
  rw [← hlo] at hS
  refine wL hlo ?_
  unfold D_X11_as at hD
  refine lv_aload_n C.1 C.2.1 dX11_as_0 rfl (lv_at hl 0 rfl) ?_
  refine lv_iload_n C.1 C.2.1 dX11_as_1 rfl (lv_at hl 1 rfl) ?_
  obtain ⟨r1, hd1, hD⟩ := bp_some hD
  refine kVi_X (As := [.int x1]) (rest := []) (ci := 11) (q0 := 0) C (c_X11_isJudge l g H.size σ x1 hd1) kw_X11_134 ⟨rfl, rfl⟩ ⟨Nat.le_of_ble_eq_true rfl, Nat.le_of_ble_eq_true rfl⟩ kv_X11_isJudge rfl rfl rfl hl.1 (Nat.le_of_ble_eq_true rfl) ⟨Nat.zero_le _, Nat.zero_le _⟩ dX11_as_2 hP hS rfl (fun H locs hP hS => ?_)
  refine lv_if_ne (tgt := 11) C.1 C.2.1 dX11_as_5 (by decide) (fun c2 => ?_) (fun c2 => ?_)
  · have hD := b_f c2 hD
    refine lv_iload_n C.1 C.2.1 dX11_as_11 rfl (lv_at hl 2 rfl) ?_
    obtain ⟨r3, hd3, hD⟩ := bp_some hD
    refine kSi_X (As := [.int x2]) (rest := []) C (c_X11_isKind l g H.size σ x2 hd3) kw_X11_155 ⟨rfl, rfl⟩ ⟨Nat.le_of_ble_eq_true rfl, Nat.le_of_ble_eq_true rfl⟩ ks_X11_isKind rfl hl.1 (Nat.le_of_ble_eq_true rfl) ⟨Nat.zero_le _, Nat.zero_le _⟩ dX11_as_12 hP hS rfl (fun H locs hP hS => ?_)
    refine lv_if_ne (tgt := 21) C.1 C.2.1 dX11_as_15 (by decide) (fun c4 => ?_) (fun c4 => ?_)
    · have hD := b_f c4 hD
      refine lv_aload_n C.1 C.2.1 dX11_as_21 rfl (lv_at hl 0 rfl) ?_
      refine lv_iload_n C.1 C.2.1 dX11_as_22 rfl (lv_at hl 1 rfl) ?_
      obtain ⟨r5, hd5, hD⟩ := bp_some hD
      refine kVr_X (As := [.int x1]) (rest := []) (ci := 11) (q0 := 0) C (c_X11_judgeAt l g H.size σ x1 hd5) kw_X11_147 ⟨rfl, rfl⟩ ⟨Nat.le_of_ble_eq_true rfl, Nat.le_of_ble_eq_true rfl⟩ kv_X11_judgeAt rfl rfl rfl hl.1 (Nat.le_of_ble_eq_true rfl) ⟨Nat.zero_le _, Nat.zero_le _⟩ dX11_as_23 hP hS rfl (fun H locs hP hS => ?_)
      refine lv_iload_n C.1 C.2.1 dX11_as_26 rfl (lv_at hl 2 rfl) ?_
      obtain ⟨r6, hd6, hD⟩ := bp_some hD
      refine kSi_X (As := [.ref (g.2.2 (4 + r5)), .int x2]) (rest := []) C (c_X11_isOf l g H.size σ r5 x2 hd6) kw_X11_158 ⟨rfl, rfl⟩ ⟨Nat.le_of_ble_eq_true rfl, Nat.le_of_ble_eq_true rfl⟩ ks_X11_isOf rfl hl.1 (Nat.le_of_ble_eq_true rfl) ⟨Nat.zero_le _, Nat.zero_le _⟩ dX11_as_27 hP hS rfl (fun H locs hP hS => ?_)
      refine lv_if_eq (tgt := 37) C.1 C.2.1 dX11_as_30 (by decide) (fun c7 => ?_) (fun c7 => ?_)
      · have hD := b_t c7 hD
        refine lv_iconst (v := (-1 : Int32)) C.1 C.2.1 dX11_as_37 (by decide) ?_
        cases hD
        exact ri_X C hr hP hS dX11_as_38
      · have hD := b_f c7 hD
        refine lv_iload_n C.1 C.2.1 dX11_as_33 rfl (lv_at hl 1 rfl) ?_
        refine lv_goto (tgt := 38) C.1 C.2.1 dX11_as_34 (by decide) ?_
        cases hD
        exact ri_X C hr hP hS dX11_as_38
    · have hD := b_t c4 hD
      refine lv_bipush (v := (-102 : Int32)) C.1 C.2.1 dX11_as_18 (by decide) ?_
      cases hD
      exact ri_X C hr hP hS dX11_as_20
  · have hD := b_t c2 hD
    refine lv_bipush (v := (-101 : Int32)) C.1 C.2.1 dX11_as_8 (by decide) ?_
    cases hD
    exact ri_X C hr hP hS dX11_as_10
abbrev rm_X5_fill : Room := { frames := 0, cells := 0, slots := 0, locals := 0 }
set_option maxHeartbeats 4000000 in
set_option maxRecDepth 100000 in
theorem w_L_X5_fill_13 (C : CX g A p s m args meth c cX5_fill 2 RX5) (hr : meth.sig.returnType = none) (N : Nat) {u : St} : ∀ (n : Nat) (x1 : Int32) (σ : St) (H : Heap) (locs : List Loc) (ls : Array Slot), lv_has ls 2 [(0, .ref (g.2.2 24)), (1, .int x1)] → va_P g.1 vwCl (wX g σ) H → va_S A s.heap H locs → L_X5_fill_13 N n x1 σ = some u → W p l e rm_X5_fill s m args below meth c H locs 0 0 (MQ below (QvX g A u) args s 0 0 A) (F0 m 13 ls []) := by
  intro n
  induction n with
  | zero =>
    intro x1 σ H locs ls hl hP hS hD
    rw [L_X5_fill_13] at hD
    cases hD
  | succ n ih =>
    intro x1 σ H locs ls hl hP hS hD
    rw [L_X5_fill_13] at hD
    refine lv_iload_n C.1 C.2.1 dX5_fill_13 rfl (lv_at hl 1 rfl) ?_
    refine lv_aload_n C.1 C.2.1 dX5_fill_14 rfl (lv_at hl 0 rfl) ?_
    refine gf_X5_32_24 C hP dX5_fill_15 ?_
    refine lv_icmp_ge (tgt := 41) C.1 C.2.1 dX5_fill_18 (by decide) (fun c1 => ?_) (fun c1 => ?_)
    · have hD := b_t c1 hD
      cases hD
      exact rv_X C hr hP hS dX5_fill_41
    · have hD := b_f c1 hD
      refine lv_aload_n C.1 C.2.1 dX5_fill_21 rfl (lv_at hl 0 rfl) ?_
      refine gf_X5_9_24 C hP dX5_fill_22 ?_
      refine lv_iload_n C.1 C.2.1 dX5_fill_25 rfl (lv_at hl 1 rfl) ?_
      refine lv_iload_n C.1 C.2.1 dX5_fill_26 rfl (lv_at hl 1 rfl) ?_
      obtain ⟨hi2, hD⟩ := gi_some hD
      refine isX C hP hS 25 rfl hi2 dX5_fill_27 st_25 (fun H locs hP hS => ?_)
      refine lv_aload_n C.1 C.2.1 dX5_fill_28 rfl (lv_at hl 0 rfl) ?_
      refine gf_X5_15_24 C hP dX5_fill_29 ?_
      refine lv_iload_n C.1 C.2.1 dX5_fill_32 rfl (lv_at hl 1 rfl) ?_
      refine lv_iconst (v := (1 : Int32)) C.1 C.2.1 dX5_fill_33 (by decide) ?_
      obtain ⟨hi3, hD⟩ := gi_some hD
      refine zsX C hP hS 26 rfl (by decide) hi3 dX5_fill_34 st_26 (fun H locs hP hS => ?_)
      refine lv_iinc (v := x1 + (1 : Int32)) (lv' := [(1, .int (x1 + (1 : Int32))), (0, .ref (g.2.2 24))]) C.1 C.2.1 dX5_fill_35 hl (k := 1) rfl rfl (by decide) rfl (fun ls hl => ?_)
      refine lv_goto (tgt := 13) C.1 C.2.1 dX5_fill_38 (by decide) ?_
      exact ih (x1 + (1 : Int32)) (pt (pt σ 25 x1.toNatClampNeg x1) 26 x1.toNatClampNeg (1 : Int32)) H locs ls (lv_sub hl [1, 0] rfl) hP hS hD
set_option maxHeartbeats 4000000 in
set_option maxRecDepth 100000 in
theorem c_X5_fill (l : Launch) (g : Gx) (sz : Nat) (N : Nat) (σ : St) {u : St} (hD : D_X5_fill N σ = some u) : Met l yX5_fill (Cond.code yX5_fill cX5_fill 2 (none) :: tb) rm_X5_fill (PcX g [.ref (g.2.2 24)] σ sz) (QvX g (AX g sz) u) 0 0 (AX g sz) := by
  refine Met.ofW (cc := cX5_fill) (maxL := 2) (ret := none) (by decide) rfl ?_
  intro p e s m args below meth c s₁ B hml hv
  have hv0 := hv
  obtain ⟨rfl, hsz, hP, -⟩ := hv
  subst hsz
  have C : CX g (AX g s.heap.size) p s m _ meth c cX5_fill 2 RX5 := CX.of B hml (fun w h => List.mem_cons_of_mem _ h) rfl hv0
  have hr := B.returns
  have hS : va_S (AX g s.heap.size) s.heap s.heap [] := va_S.rf
  have hl := lv_entry ([.ref (g.2.2 24)]) (n := 2) (Nat.le_of_ble_eq_true rfl)
  rw [lg_entry_eq]
  generalize (lg_sl ([.ref (g.2.2 24)]) ++ List.replicate (2 - (lg_sl ([.ref (g.2.2 24)])).length) Slot.unset).toArray = ls at hl ⊢
  have hl : lv_has ls 2 [(0, .ref (g.2.2 24))] := hl
  obtain ⟨H, hH⟩ : ∃ H, H = s.heap := ⟨_, rfl⟩
  have hP : va_P g.1 vwCl (wX g σ) H := by rw [hH]; exact hP
  have hS : va_S (AX g s.heap.size) s.heap H [] := by rw [hH]; exact hS
  refine wH hH ?_
  obtain ⟨locs, hlo⟩ : ∃ locs : List Loc, locs = [] := ⟨_, rfl⟩
  rw [← hlo] at hS
  refine wL hlo ?_
  unfold D_X5_fill at hD
  refine lv_aload_n C.1 C.2.1 dX5_fill_0 rfl (lv_at hl 0 rfl) ?_
  refine lv_aload_n C.1 C.2.1 dX5_fill_1 rfl (lv_at hl 0 rfl) ?_
  refine gf_X5_22_24 C hP dX5_fill_2 ?_
  refine gf_X5_26_20 C hP dX5_fill_5 ?_
  refine pf_X5_32_24 C hP hS dX5_fill_8 (fun H locs hP hS => ?_)
  refine lv_iconst (v := (0 : Int32)) C.1 C.2.1 dX5_fill_11 (by decide) ?_
  refine lv_istore_n (lv' := [(1, .int (0 : Int32)), (0, .ref (g.2.2 24))]) C.1 C.2.1 dX5_fill_12 rfl hl (by decide) rfl (fun ls hl => ?_)
  exact w_L_X5_fill_13 C hr N N (0 : Int32) (pt σ 24 2 (σ 20 2)) H locs ls (lv_sub hl [1, 0] rfl) hP hS hD
abbrev rm_X5_keep : Room := { frames := 3, cells := 0, slots := 0, locals := 65 }
set_option maxHeartbeats 4000000 in
set_option maxRecDepth 100000 in
theorem w_L_X5_keep_6 (C : CX g A p s m args meth c cX5_keep 7 RX5) (hr : meth.sig.returnType = none) (N : Nat) {u : St} (k1 : Nat) (x2 : Int32) (x3 : Int32) : ∀ (n : Nat) (x4 : Int32) (x5 : Int32) (σ : St) (H : Heap) (locs : List Loc) (ls : Array Slot), lv_has ls 7 [(0, .ref (g.2.2 24)), (1, .ref (g.2.2 (4 + k1))), (2, .int x2), (3, .int x3), (4, .int x4), (5, .int x5)] → va_P g.1 vwCl (wX g σ) H → va_S A s.heap H locs → L_X5_keep_6 N k1 x2 x3 n x4 x5 σ = some u → W p l e rm_X5_keep s m args below meth c H locs 0 0 (MQ below (QvX g A u) args s 0 0 A) (F0 m 6 ls []) := by
  intro n
  induction n with
  | zero =>
    intro x4 x5 σ H locs ls hl hP hS hD
    rw [L_X5_keep_6] at hD
    cases hD
  | succ n ih =>
    intro x4 x5 σ H locs ls hl hP hS hD
    rw [L_X5_keep_6] at hD
    refine lv_iload C.1 C.2.1 dX5_keep_6 (lv_at hl 5 rfl) ?_
    refine lv_aload_n C.1 C.2.1 dX5_keep_8 rfl (lv_at hl 0 rfl) ?_
    refine gf_X5_32_24 C hP dX5_keep_9 ?_
    refine lv_icmp_ge (tgt := 68) C.1 C.2.1 dX5_keep_12 (by decide) (fun c1 => ?_) (fun c1 => ?_)
    · have hD := b_t c1 hD
      refine lv_aload_n C.1 C.2.1 dX5_keep_68 rfl (lv_at hl 0 rfl) ?_
      refine lv_iload C.1 C.2.1 dX5_keep_69 (lv_at hl 4 rfl) ?_
      refine pf_X5_32_24 C hP hS dX5_keep_71 (fun H locs hP hS => ?_)
      cases hD
      exact rv_X C hr hP hS dX5_keep_74
    · have hD := b_f c1 hD
      refine lv_aload_n C.1 C.2.1 dX5_keep_15 rfl (lv_at hl 0 rfl) ?_
      refine gf_X5_9_24 C hP dX5_keep_16 ?_
      refine lv_iload C.1 C.2.1 dX5_keep_19 (lv_at hl 5 rfl) ?_
      obtain ⟨hi2, hD⟩ := gi_some hD
      refine iaX C hP 25 rfl hi2 dX5_keep_21 ?_
      refine lv_istore (lv' := [(6, .int (σ 25 x5.toNatClampNeg)), (0, .ref (g.2.2 24)), (1, .ref (g.2.2 (4 + k1))), (2, .int x2), (3, .int x3), (4, .int x4), (5, .int x5)]) C.1 C.2.1 dX5_keep_22 hl (by decide) rfl (fun ls hl => ?_)
      refine lv_aload_n C.1 C.2.1 dX5_keep_24 rfl (lv_at hl 2 rfl) ?_
      refine lv_aload_n C.1 C.2.1 dX5_keep_25 rfl (lv_at hl 1 rfl) ?_
      refine gf_X5_22_24 C hP dX5_keep_26 ?_
      refine lv_iload_n C.1 C.2.1 dX5_keep_29 rfl (lv_at hl 3 rfl) ?_
      refine lv_iload C.1 C.2.1 dX5_keep_30 (lv_at hl 0 rfl) ?_
      obtain ⟨r3, hd3, hD⟩ := bp_some hD
      refine kW_X5_33 C hd3 ⟨Nat.le_of_ble_eq_true rfl, Nat.le_of_ble_eq_true rfl⟩ hl.1 (Nat.le_of_ble_eq_true rfl) ⟨Nat.zero_le _, Nat.zero_le _⟩ dX5_keep_32 hP hS (fun H locs hP hS => ?_)
      refine lv_iload_n C.1 C.2.1 dX5_keep_35 rfl (lv_at hl 4 rfl) ?_
      refine lv_icmp_ne (tgt := 54) C.1 C.2.1 dX5_keep_36 (by decide) (fun c4 => ?_) (fun c4 => ?_)
      · have hD := b_f c4 hD
        refine lv_aload_n C.1 C.2.1 dX5_keep_54 rfl (lv_at hl 1 rfl) ?_
        refine gf_X5_15_24 C hP dX5_keep_55 ?_
        refine lv_iload C.1 C.2.1 dX5_keep_58 (lv_at hl 0 rfl) ?_
        refine lv_iconst (v := (0 : Int32)) C.1 C.2.1 dX5_keep_60 (by decide) ?_
        obtain ⟨hi5, hD⟩ := gi_some hD
        refine zsX C hP hS 26 rfl (by decide) hi5 dX5_keep_61 st_26 (fun H locs hP hS => ?_)
        refine lv_iinc (v := x5 + (1 : Int32)) (lv' := [(5, .int (x5 + (1 : Int32))), (6, .int (σ 25 x5.toNatClampNeg)), (0, .ref (g.2.2 24)), (1, .ref (g.2.2 (4 + k1))), (2, .int x2), (3, .int x3), (4, .int x4)]) C.1 C.2.1 dX5_keep_62 hl (k := 6) rfl rfl (by decide) rfl (fun ls hl => ?_)
        refine lv_goto (tgt := 6) C.1 C.2.1 dX5_keep_65 (by decide) ?_
        exact ih x4 (x5 + (1 : Int32)) (pt σ 26 ((σ 25 x5.toNatClampNeg).toNatClampNeg) (0 : Int32)) H locs ls (lv_sub hl [2, 3, 4, 5, 6, 0] rfl) hP hS hD
      · have hD := b_t c4 hD
        refine lv_aload_n C.1 C.2.1 dX5_keep_39 rfl (lv_at hl 1 rfl) ?_
        refine gf_X5_9_24 C hP dX5_keep_40 ?_
        refine lv_iload C.1 C.2.1 dX5_keep_43 (lv_at hl 5 rfl) ?_
        refine lv_iload C.1 C.2.1 dX5_keep_45 (lv_at hl 0 rfl) ?_
        obtain ⟨hi6, hD⟩ := gi_some hD
        refine isX C hP hS 25 rfl hi6 dX5_keep_47 st_25 (fun H locs hP hS => ?_)
        refine lv_iinc (v := x4 + (1 : Int32)) (lv' := [(4, .int (x4 + (1 : Int32))), (6, .int (σ 25 x5.toNatClampNeg)), (0, .ref (g.2.2 24)), (1, .ref (g.2.2 (4 + k1))), (2, .int x2), (3, .int x3), (5, .int x5)]) C.1 C.2.1 dX5_keep_48 hl (k := 5) rfl rfl (by decide) rfl (fun ls hl => ?_)
        refine lv_goto (tgt := 62) C.1 C.2.1 dX5_keep_51 (by decide) ?_
        refine lv_iinc (v := x5 + (1 : Int32)) (lv' := [(5, .int (x5 + (1 : Int32))), (4, .int (x4 + (1 : Int32))), (6, .int (σ 25 x5.toNatClampNeg)), (0, .ref (g.2.2 24)), (1, .ref (g.2.2 (4 + k1))), (2, .int x2), (3, .int x3)]) C.1 C.2.1 dX5_keep_62 hl (k := 6) rfl rfl (by decide) rfl (fun ls hl => ?_)
        refine lv_goto (tgt := 6) C.1 C.2.1 dX5_keep_65 (by decide) ?_
        exact ih (x4 + (1 : Int32)) (x5 + (1 : Int32)) (pt σ 25 x4.toNatClampNeg (σ 25 x5.toNatClampNeg)) H locs ls (lv_sub hl [3, 4, 5, 6, 1, 0] rfl) hP hS hD
set_option maxHeartbeats 4000000 in
set_option maxRecDepth 100000 in
theorem c_X5_keep (l : Launch) (g : Gx) (sz : Nat) (N : Nat) (σ : St) (k1 : Nat) (x2 : Int32) (x3 : Int32) {u : St} (hD : D_X5_keep N σ k1 x2 x3 = some u) : Met l yX5_keep (Cond.code yX5_keep cX5_keep 7 (none) :: tb) rm_X5_keep (PcX g [.ref (g.2.2 24), .ref (g.2.2 (4 + k1)), .int x2, .int x3] σ sz) (QvX g (AX g sz) u) 0 0 (AX g sz) := by
  refine Met.ofW (cc := cX5_keep) (maxL := 7) (ret := none) (by decide) rfl ?_
  intro p e s m args below meth c s₁ B hml hv
  have hv0 := hv
  obtain ⟨rfl, hsz, hP, -⟩ := hv
  subst hsz
  have C : CX g (AX g s.heap.size) p s m _ meth c cX5_keep 7 RX5 := CX.of B hml (fun w h => List.mem_cons_of_mem _ h) rfl hv0
  have hr := B.returns
  have hS : va_S (AX g s.heap.size) s.heap s.heap [] := va_S.rf
  have hl := lv_entry ([.ref (g.2.2 24), .ref (g.2.2 (4 + k1)), .int x2, .int x3]) (n := 7) (Nat.le_of_ble_eq_true rfl)
  rw [lg_entry_eq]
  generalize (lg_sl ([.ref (g.2.2 24), .ref (g.2.2 (4 + k1)), .int x2, .int x3]) ++ List.replicate (7 - (lg_sl ([.ref (g.2.2 24), .ref (g.2.2 (4 + k1)), .int x2, .int x3])).length) Slot.unset).toArray = ls at hl ⊢
  have hl : lv_has ls 7 [(0, .ref (g.2.2 24)), (1, .ref (g.2.2 (4 + k1))), (2, .int x2), (3, .int x3)] := hl
  obtain ⟨H, hH⟩ : ∃ H, H = s.heap := ⟨_, rfl⟩
  have hP : va_P g.1 vwCl (wX g σ) H := by rw [hH]; exact hP
  have hS : va_S (AX g s.heap.size) s.heap H [] := by rw [hH]; exact hS
  refine wH hH ?_
  obtain ⟨locs, hlo⟩ : ∃ locs : List Loc, locs = [] := ⟨_, rfl⟩
  rw [← hlo] at hS
  refine wL hlo ?_
  unfold D_X5_keep at hD
  refine lv_iconst (v := (0 : Int32)) C.1 C.2.1 dX5_keep_0 (by decide) ?_
  refine lv_istore (lv' := [(4, .int (0 : Int32)), (0, .ref (g.2.2 24)), (1, .ref (g.2.2 (4 + k1))), (2, .int x2), (3, .int x3)]) C.1 C.2.1 dX5_keep_1 hl (by decide) rfl (fun ls hl => ?_)
  refine lv_iconst (v := (0 : Int32)) C.1 C.2.1 dX5_keep_3 (by decide) ?_
  refine lv_istore (lv' := [(5, .int (0 : Int32)), (4, .int (0 : Int32)), (0, .ref (g.2.2 24)), (1, .ref (g.2.2 (4 + k1))), (2, .int x2), (3, .int x3)]) C.1 C.2.1 dX5_keep_4 hl (by decide) rfl (fun ls hl => ?_)
  exact w_L_X5_keep_6 C hr N k1 x2 x3 N (0 : Int32) (0 : Int32) σ H locs ls (lv_sub hl [2, 3, 4, 5, 1, 0] rfl) hP hS hD
abbrev rm_X11_gatherFitting : Room := { frames := 4, cells := 0, slots := 0, locals := 91 }
set_option maxHeartbeats 4000000 in
set_option maxRecDepth 100000 in
theorem w_L_X11_gatherFitting_9 (C : CX g A p s m args meth c cX11_gatherFitting 2 RX11) (hr : meth.sig.returnType = some .int) (N : Nat) {r : Int32} {u : St} : ∀ (n : Nat) (x1 : Int32) (σ : St) (H : Heap) (locs : List Loc) (ls : Array Slot), lv_has ls 2 [(0, .ref (g.2.2 0)), (1, .int x1)] → va_P g.1 vwCl (wX g σ) H → va_S A s.heap H locs → L_X11_gatherFitting_9 N n x1 σ = some (r, u) → W p l e rm_X11_gatherFitting s m args below meth c H locs 0 0 (MQ below (QiX g A r u) args s 0 0 A) (F0 m 9 ls []) := by
  intro n
  induction n with
  | zero =>
    intro x1 σ H locs ls hl hP hS hD
    rw [L_X11_gatherFitting_9] at hD
    cases hD
  | succ n ih =>
    intro x1 σ H locs ls hl hP hS hD
    rw [L_X11_gatherFitting_9] at hD
    refine lv_iload_n C.1 C.2.1 dX11_gatherFitting_9 rfl (lv_at hl 1 rfl) ?_
    refine lv_aload_n C.1 C.2.1 dX11_gatherFitting_10 rfl (lv_at hl 0 rfl) ?_
    refine gf_X11_42_0 C hP dX11_gatherFitting_11 ?_
    refine gf_X11_125_10 C hP dX11_gatherFitting_14 ?_
    refine lv_icmp_ge (tgt := 64) C.1 C.2.1 dX11_gatherFitting_17 (by decide) (fun c2 => ?_) (fun c2 => ?_)
    · have hD := b_t c2 hD
      refine lv_aload_n C.1 C.2.1 dX11_gatherFitting_64 rfl (lv_at hl 0 rfl) ?_
      refine gf_X11_61_0 C hP dX11_gatherFitting_65 ?_
      refine gf_X11_212_24 C hP dX11_gatherFitting_68 ?_
      cases hD
      exact ri_X C hr hP hS dX11_gatherFitting_71
    · have hD := b_f c2 hD
      refine lv_aload_n C.1 C.2.1 dX11_gatherFitting_20 rfl (lv_at hl 0 rfl) ?_
      refine gf_X11_61_0 C hP dX11_gatherFitting_21 ?_
      refine lv_aload_n C.1 C.2.1 dX11_gatherFitting_24 rfl (lv_at hl 0 rfl) ?_
      refine lv_aload_n C.1 C.2.1 dX11_gatherFitting_25 rfl (lv_at hl 0 rfl) ?_
      refine gf_X11_42_0 C hP dX11_gatherFitting_26 ?_
      refine gf_X11_181_10 C hP dX11_gatherFitting_29 ?_
      refine lv_iload_n C.1 C.2.1 dX11_gatherFitting_32 rfl (lv_at hl 1 rfl) ?_
      obtain ⟨hi3, hD⟩ := gi_some hD
      refine iaX C hP 13 rfl hi3 dX11_gatherFitting_33 ?_
      obtain ⟨r4, hd4, hD⟩ := bp_some hD
      refine kVr_X (As := [.int (σ 13 x1.toNatClampNeg)]) (rest := [.ref (g.2.2 24)]) (ci := 11) (q0 := 0) C (c_X11_judgeAt l g H.size σ (σ 13 x1.toNatClampNeg) hd4) kw_X11_147 ⟨rfl, rfl⟩ ⟨Nat.le_of_ble_eq_true rfl, Nat.le_of_ble_eq_true rfl⟩ kv_X11_judgeAt rfl rfl rfl hl.1 (Nat.le_of_ble_eq_true rfl) ⟨Nat.zero_le _, Nat.zero_le _⟩ dX11_gatherFitting_34 hP hS rfl (fun H locs hP hS => ?_)
      refine lv_aload_n C.1 C.2.1 dX11_gatherFitting_37 rfl (lv_at hl 0 rfl) ?_
      refine gf_X11_42_0 C hP dX11_gatherFitting_38 ?_
      refine gf_X11_178_10 C hP dX11_gatherFitting_41 ?_
      refine lv_iload_n C.1 C.2.1 dX11_gatherFitting_44 rfl (lv_at hl 1 rfl) ?_
      obtain ⟨hi5, hD⟩ := gi_some hD
      refine iaX C hP 12 rfl hi5 dX11_gatherFitting_45 ?_
      refine lv_aload_n C.1 C.2.1 dX11_gatherFitting_46 rfl (lv_at hl 0 rfl) ?_
      refine gf_X11_42_0 C hP dX11_gatherFitting_47 ?_
      refine gf_X11_184_10 C hP dX11_gatherFitting_50 ?_
      refine lv_iload_n C.1 C.2.1 dX11_gatherFitting_53 rfl (lv_at hl 1 rfl) ?_
      obtain ⟨hi6, hD⟩ := gi_some hD
      refine iaX C hP 14 rfl hi6 dX11_gatherFitting_54 ?_
      obtain ⟨s7, hd7, hD⟩ := bp_some hD
      refine kVv_X (As := [.ref (g.2.2 (4 + r4)), .int (σ 12 x1.toNatClampNeg), .int (σ 14 x1.toNatClampNeg)]) (rest := []) (ci := 5) (q0 := 24) C (c_X5_keep l g H.size N σ r4 (σ 12 x1.toNatClampNeg) (σ 14 x1.toNatClampNeg) hd7) kw_X11_227 ⟨rfl, rfl⟩ ⟨Nat.le_of_ble_eq_true rfl, Nat.le_of_ble_eq_true rfl⟩ kv_X5_keep rfl rfl rfl hl.1 (Nat.le_of_ble_eq_true rfl) ⟨Nat.zero_le _, Nat.zero_le _⟩ dX11_gatherFitting_55 hP hS rfl (fun H locs hP hS => ?_)
      refine lv_iinc (v := x1 + (1 : Int32)) (lv' := [(1, .int (x1 + (1 : Int32))), (0, .ref (g.2.2 0))]) C.1 C.2.1 dX11_gatherFitting_58 hl (k := 1) rfl rfl (by decide) rfl (fun ls hl => ?_)
      refine lv_goto (tgt := 9) C.1 C.2.1 dX11_gatherFitting_61 (by decide) ?_
      exact ih (x1 + (1 : Int32)) s7 H locs ls (lv_sub hl [1, 0] rfl) hP hS hD
set_option maxHeartbeats 4000000 in
set_option maxRecDepth 100000 in
theorem c_X11_gatherFitting (l : Launch) (g : Gx) (sz : Nat) (N : Nat) (σ : St) {r : Int32} {u : St} (hD : D_X11_gatherFitting N σ = some (r, u)) : Met l yX11_gatherFitting (Cond.code yX11_gatherFitting cX11_gatherFitting 2 (some .int) :: tb) rm_X11_gatherFitting (PcX g [.ref (g.2.2 0)] σ sz) (QiX g (AX g sz) r u) 0 0 (AX g sz) := by
  refine Met.ofW (cc := cX11_gatherFitting) (maxL := 2) (ret := some .int) (by decide) rfl ?_
  intro p e s m args below meth c s₁ B hml hv
  have hv0 := hv
  obtain ⟨rfl, hsz, hP, -⟩ := hv
  subst hsz
  have C : CX g (AX g s.heap.size) p s m _ meth c cX11_gatherFitting 2 RX11 := CX.of B hml (fun w h => List.mem_cons_of_mem _ h) rfl hv0
  have hr := B.returns
  have hS : va_S (AX g s.heap.size) s.heap s.heap [] := va_S.rf
  have hl := lv_entry ([.ref (g.2.2 0)]) (n := 2) (Nat.le_of_ble_eq_true rfl)
  rw [lg_entry_eq]
  generalize (lg_sl ([.ref (g.2.2 0)]) ++ List.replicate (2 - (lg_sl ([.ref (g.2.2 0)])).length) Slot.unset).toArray = ls at hl ⊢
  have hl : lv_has ls 2 [(0, .ref (g.2.2 0))] := hl
  obtain ⟨H, hH⟩ : ∃ H, H = s.heap := ⟨_, rfl⟩
  have hP : va_P g.1 vwCl (wX g σ) H := by rw [hH]; exact hP
  have hS : va_S (AX g s.heap.size) s.heap H [] := by rw [hH]; exact hS
  refine wH hH ?_
  obtain ⟨locs, hlo⟩ : ∃ locs : List Loc, locs = [] := ⟨_, rfl⟩
  rw [← hlo] at hS
  refine wL hlo ?_
  unfold D_X11_gatherFitting at hD
  refine lv_aload_n C.1 C.2.1 dX11_gatherFitting_0 rfl (lv_at hl 0 rfl) ?_
  refine gf_X11_61_0 C hP dX11_gatherFitting_1 ?_
  obtain ⟨s1, hd1, hD⟩ := bp_some hD
  refine kVv_X (As := []) (rest := []) (ci := 5) (q0 := 24) C (c_X5_fill l g H.size N σ hd1) kw_X11_219 ⟨rfl, rfl⟩ ⟨Nat.le_of_ble_eq_true rfl, Nat.le_of_ble_eq_true rfl⟩ kv_X5_fill rfl rfl rfl hl.1 (Nat.le_of_ble_eq_true rfl) ⟨Nat.zero_le _, Nat.zero_le _⟩ dX11_gatherFitting_4 hP hS rfl (fun H locs hP hS => ?_)
  refine lv_iconst (v := (0 : Int32)) C.1 C.2.1 dX11_gatherFitting_7 (by decide) ?_
  refine lv_istore_n (lv' := [(1, .int (0 : Int32)), (0, .ref (g.2.2 0))]) C.1 C.2.1 dX11_gatherFitting_8 rfl hl (by decide) rfl (fun ls hl => ?_)
  exact w_L_X11_gatherFitting_9 C hr N N (0 : Int32) s1 H locs ls (lv_sub hl [1, 0] rfl) hP hS hD
abbrev rm_X5_tally : Room := { frames := 3, cells := 0, slots := 0, locals := 65 }
set_option maxHeartbeats 4000000 in
set_option maxRecDepth 100000 in
theorem w_L_X5_tally_26 (C : CX g A p s m args meth c cX5_tally 5 RX5) (hr : meth.sig.returnType = none) (N : Nat) {u : St} (k1 : Nat) (x2 : Int32) : ∀ (n : Nat) (x3 : Int32) (σ : St) (H : Heap) (locs : List Loc) (ls : Array Slot), lv_has ls 5 [(0, .ref (g.2.2 24)), (1, .ref (g.2.2 (4 + k1))), (2, .int x2), (3, .int x3)] → va_P g.1 vwCl (wX g σ) H → va_S A s.heap H locs → L_X5_tally_26 N k1 x2 n x3 σ = some u → W p l e rm_X5_tally s m args below meth c H locs 0 0 (MQ below (QvX g A u) args s 0 0 A) (F0 m 26 ls []) := by
  intro n
  induction n with
  | zero =>
    intro x3 σ H locs ls hl hP hS hD
    rw [L_X5_tally_26] at hD
    cases hD
  | succ n ih =>
    intro x3 σ H locs ls hl hP hS hD
    rw [L_X5_tally_26] at hD
    refine lv_iload_n C.1 C.2.1 dX5_tally_26 rfl (lv_at hl 3 rfl) ?_
    refine lv_aload_n C.1 C.2.1 dX5_tally_27 rfl (lv_at hl 0 rfl) ?_
    refine gf_X5_32_24 C hP dX5_tally_28 ?_
    refine lv_icmp_ge (tgt := 83) C.1 C.2.1 dX5_tally_31 (by decide) (fun c2 => ?_) (fun c2 => ?_)
    · have hD := b_t c2 hD
      cases hD
      exact rv_X C hr hP hS dX5_tally_83
    · have hD := b_f c2 hD
      refine lv_aload_n C.1 C.2.1 dX5_tally_34 rfl (lv_at hl 1 rfl) ?_
      refine lv_aload_n C.1 C.2.1 dX5_tally_35 rfl (lv_at hl 0 rfl) ?_
      refine gf_X5_22_24 C hP dX5_tally_36 ?_
      refine lv_iload_n C.1 C.2.1 dX5_tally_39 rfl (lv_at hl 2 rfl) ?_
      refine lv_aload_n C.1 C.2.1 dX5_tally_40 rfl (lv_at hl 0 rfl) ?_
      refine gf_X5_9_24 C hP dX5_tally_41 ?_
      refine lv_iload_n C.1 C.2.1 dX5_tally_44 rfl (lv_at hl 3 rfl) ?_
      obtain ⟨hi3, hD⟩ := gi_some hD
      refine iaX C hP 25 rfl hi3 dX5_tally_45 ?_
      obtain ⟨r4, hd4, hD⟩ := bp_some hD
      refine kW_X5_33 C hd4 ⟨Nat.le_of_ble_eq_true rfl, Nat.le_of_ble_eq_true rfl⟩ hl.1 (Nat.le_of_ble_eq_true rfl) ⟨Nat.zero_le _, Nat.zero_le _⟩ dX5_tally_46 hP hS (fun H locs hP hS => ?_)
      refine lv_istore (lv' := [(4, .int r4), (0, .ref (g.2.2 24)), (1, .ref (g.2.2 (4 + k1))), (2, .int x2), (3, .int x3)]) C.1 C.2.1 dX5_tally_49 hl (by decide) rfl (fun ls hl => ?_)
      refine lv_iload C.1 C.2.1 dX5_tally_51 (lv_at hl 0 rfl) ?_
      refine lv_if_lt (tgt := 77) C.1 C.2.1 dX5_tally_53 (by decide) (fun c5 => ?_) (fun c5 => ?_)
      · have hD := b_t c5 hD
        refine lv_iinc (v := x3 + (1 : Int32)) (lv' := [(3, .int (x3 + (1 : Int32))), (4, .int r4), (0, .ref (g.2.2 24)), (1, .ref (g.2.2 (4 + k1))), (2, .int x2)]) C.1 C.2.1 dX5_tally_77 hl (k := 4) rfl rfl (by decide) rfl (fun ls hl => ?_)
        refine lv_goto (tgt := 26) C.1 C.2.1 dX5_tally_80 (by decide) ?_
        exact ih (x3 + (1 : Int32)) σ H locs ls (lv_sub hl [2, 3, 4, 0] rfl) hP hS hD
      · have hD := b_f c5 hD
        refine lv_iload C.1 C.2.1 dX5_tally_56 (lv_at hl 0 rfl) ?_
        refine lv_aload_n C.1 C.2.1 dX5_tally_58 rfl (lv_at hl 1 rfl) ?_
        refine gf_X5_19_24 C hP dX5_tally_59 ?_
        refine alX C hP 27 (v := (31 : Int32)) rfl (by decide) dX5_tally_62 ?_
        refine lv_icmp_ge (tgt := 77) C.1 C.2.1 dX5_tally_63 (by decide) (fun c6 => ?_) (fun c6 => ?_)
        · have hD := b_t c6 hD
          refine lv_iinc (v := x3 + (1 : Int32)) (lv' := [(3, .int (x3 + (1 : Int32))), (4, .int r4), (0, .ref (g.2.2 24)), (1, .ref (g.2.2 (4 + k1))), (2, .int x2)]) C.1 C.2.1 dX5_tally_77 hl (k := 4) rfl rfl (by decide) rfl (fun ls hl => ?_)
          refine lv_goto (tgt := 26) C.1 C.2.1 dX5_tally_80 (by decide) ?_
          exact ih (x3 + (1 : Int32)) σ H locs ls (lv_sub hl [2, 3, 4, 0] rfl) hP hS hD
        · have hD := b_f c6 hD
          refine lv_aload_n C.1 C.2.1 dX5_tally_66 rfl (lv_at hl 1 rfl) ?_
          refine gf_X5_19_24 C hP dX5_tally_67 ?_
          refine lv_iload C.1 C.2.1 dX5_tally_70 (lv_at hl 0 rfl) ?_
          refine lv_dup2_11 C.1 C.2.1 dX5_tally_72 rfl rfl ?_
          obtain ⟨hi7, hD⟩ := gi_some hD
          refine iaX C hP 27 rfl hi7 dX5_tally_73 ?_
          refine lv_iconst (v := (1 : Int32)) C.1 C.2.1 dX5_tally_74 (by decide) ?_
          refine lv_iadd C.1 C.2.1 dX5_tally_75 ?_
          obtain ⟨hi8, hD⟩ := gi_some hD
          refine isX C hP hS 27 rfl hi8 dX5_tally_76 st_27 (fun H locs hP hS => ?_)
          refine lv_iinc (v := x3 + (1 : Int32)) (lv' := [(3, .int (x3 + (1 : Int32))), (4, .int r4), (0, .ref (g.2.2 24)), (1, .ref (g.2.2 (4 + k1))), (2, .int x2)]) C.1 C.2.1 dX5_tally_77 hl (k := 4) rfl rfl (by decide) rfl (fun ls hl => ?_)
          refine lv_goto (tgt := 26) C.1 C.2.1 dX5_tally_80 (by decide) ?_
          exact ih (x3 + (1 : Int32)) (pt σ 27 r4.toNatClampNeg ((σ 27 r4.toNatClampNeg) + (1 : Int32))) H locs ls (lv_sub hl [2, 3, 4, 0] rfl) hP hS hD
set_option maxHeartbeats 4000000 in
set_option maxRecDepth 100000 in
theorem w_L_X5_tally_2 (C : CX g A p s m args meth c cX5_tally 5 RX5) (hr : meth.sig.returnType = none) (N : Nat) {u : St} (k1 : Nat) (x2 : Int32) : ∀ (n : Nat) (x3 : Int32) (σ : St) (H : Heap) (locs : List Loc) (ls : Array Slot), lv_has ls 5 [(0, .ref (g.2.2 24)), (1, .ref (g.2.2 (4 + k1))), (2, .int x2), (3, .int x3)] → va_P g.1 vwCl (wX g σ) H → va_S A s.heap H locs → L_X5_tally_2 N k1 x2 n x3 σ = some u → W p l e rm_X5_tally s m args below meth c H locs 0 0 (MQ below (QvX g A u) args s 0 0 A) (F0 m 2 ls []) := by
  intro n
  induction n with
  | zero =>
    intro x3 σ H locs ls hl hP hS hD
    rw [L_X5_tally_2] at hD
    cases hD
  | succ n ih =>
    intro x3 σ H locs ls hl hP hS hD
    rw [L_X5_tally_2] at hD
    refine lv_iload_n C.1 C.2.1 dX5_tally_2 rfl (lv_at hl 3 rfl) ?_
    refine lv_aload_n C.1 C.2.1 dX5_tally_3 rfl (lv_at hl 0 rfl) ?_
    refine gf_X5_19_24 C hP dX5_tally_4 ?_
    refine alX C hP 27 (v := (31 : Int32)) rfl (by decide) dX5_tally_7 ?_
    refine lv_icmp_ge (tgt := 24) C.1 C.2.1 dX5_tally_8 (by decide) (fun c1 => ?_) (fun c1 => ?_)
    · have hD := b_t c1 hD
      refine lv_iconst (v := (0 : Int32)) C.1 C.2.1 dX5_tally_24 (by decide) ?_
      refine lv_istore_n (lv' := [(3, .int (0 : Int32)), (0, .ref (g.2.2 24)), (1, .ref (g.2.2 (4 + k1))), (2, .int x2)]) C.1 C.2.1 dX5_tally_25 rfl hl (by decide) rfl (fun ls hl => ?_)
      exact w_L_X5_tally_26 C hr N k1 x2 N (0 : Int32) σ H locs ls (lv_sub hl [1, 2, 3, 0] rfl) hP hS hD
    · have hD := b_f c1 hD
      refine lv_aload_n C.1 C.2.1 dX5_tally_11 rfl (lv_at hl 0 rfl) ?_
      refine gf_X5_19_24 C hP dX5_tally_12 ?_
      refine lv_iload_n C.1 C.2.1 dX5_tally_15 rfl (lv_at hl 3 rfl) ?_
      refine lv_iconst (v := (0 : Int32)) C.1 C.2.1 dX5_tally_16 (by decide) ?_
      obtain ⟨hi9, hD⟩ := gi_some hD
      refine isX C hP hS 27 rfl hi9 dX5_tally_17 st_27 (fun H locs hP hS => ?_)
      refine lv_iinc (v := x3 + (1 : Int32)) (lv' := [(3, .int (x3 + (1 : Int32))), (0, .ref (g.2.2 24)), (1, .ref (g.2.2 (4 + k1))), (2, .int x2)]) C.1 C.2.1 dX5_tally_18 hl (k := 3) rfl rfl (by decide) rfl (fun ls hl => ?_)
      refine lv_goto (tgt := 2) C.1 C.2.1 dX5_tally_21 (by decide) ?_
      exact ih (x3 + (1 : Int32)) (pt σ 27 x3.toNatClampNeg (0 : Int32)) H locs ls (lv_sub hl [1, 2, 3, 0] rfl) hP hS hD
set_option maxHeartbeats 4000000 in
set_option maxRecDepth 100000 in
theorem c_X5_tally (l : Launch) (g : Gx) (sz : Nat) (N : Nat) (σ : St) (k1 : Nat) (x2 : Int32) {u : St} (hD : D_X5_tally N σ k1 x2 = some u) : Met l yX5_tally (Cond.code yX5_tally cX5_tally 5 (none) :: tb) rm_X5_tally (PcX g [.ref (g.2.2 24), .ref (g.2.2 (4 + k1)), .int x2] σ sz) (QvX g (AX g sz) u) 0 0 (AX g sz) := by
  refine Met.ofW (cc := cX5_tally) (maxL := 5) (ret := none) (by decide) rfl ?_
  intro p e s m args below meth c s₁ B hml hv
  have hv0 := hv
  obtain ⟨rfl, hsz, hP, -⟩ := hv
  subst hsz
  have C : CX g (AX g s.heap.size) p s m _ meth c cX5_tally 5 RX5 := CX.of B hml (fun w h => List.mem_cons_of_mem _ h) rfl hv0
  have hr := B.returns
  have hS : va_S (AX g s.heap.size) s.heap s.heap [] := va_S.rf
  have hl := lv_entry ([.ref (g.2.2 24), .ref (g.2.2 (4 + k1)), .int x2]) (n := 5) (Nat.le_of_ble_eq_true rfl)
  rw [lg_entry_eq]
  generalize (lg_sl ([.ref (g.2.2 24), .ref (g.2.2 (4 + k1)), .int x2]) ++ List.replicate (5 - (lg_sl ([.ref (g.2.2 24), .ref (g.2.2 (4 + k1)), .int x2])).length) Slot.unset).toArray = ls at hl ⊢
  have hl : lv_has ls 5 [(0, .ref (g.2.2 24)), (1, .ref (g.2.2 (4 + k1))), (2, .int x2)] := hl
  obtain ⟨H, hH⟩ : ∃ H, H = s.heap := ⟨_, rfl⟩
  have hP : va_P g.1 vwCl (wX g σ) H := by rw [hH]; exact hP
  have hS : va_S (AX g s.heap.size) s.heap H [] := by rw [hH]; exact hS
  refine wH hH ?_
  obtain ⟨locs, hlo⟩ : ∃ locs : List Loc, locs = [] := ⟨_, rfl⟩
  rw [← hlo] at hS
  refine wL hlo ?_
  unfold D_X5_tally at hD
  refine lv_iconst (v := (0 : Int32)) C.1 C.2.1 dX5_tally_0 (by decide) ?_
  refine lv_istore_n (lv' := [(3, .int (0 : Int32)), (0, .ref (g.2.2 24)), (1, .ref (g.2.2 (4 + k1))), (2, .int x2)]) C.1 C.2.1 dX5_tally_1 rfl hl (by decide) rfl (fun ls hl => ?_)
  exact w_L_X5_tally_2 C hr N k1 x2 N (0 : Int32) σ H locs ls (lv_sub hl [1, 2, 3, 0] rfl) hP hS hD
abbrev rm_X5_worst : Room := { frames := 4, cells := 0, slots := 0, locals := 89 }
set_option maxHeartbeats 4000000 in
set_option maxRecDepth 100000 in
theorem w_L_X5_worst_22 (C : CX g A p s m args meth c cX5_worst 8 RX5) (hr : meth.sig.returnType = some .int) (N : Nat) {r : Int32} {u : St} (x5 : Int32) : ∀ (n : Nat) (x3 : Int32) (x6 : Int32) (σ : St) (H : Heap) (locs : List Loc) (ls : Array Slot), lv_has ls 8 [(3, .int x3), (4, .ref (g.2.2 27)), (5, .int x5), (6, .int x6)] → va_P g.1 vwCl (wX g σ) H → va_S A s.heap H locs → L_X5_worst_22 N x5 n x3 x6 σ = some (r, u) → W p l e rm_X5_worst s m args below meth c H locs 0 0 (MQ below (QiX g A r u) args s 0 0 A) (F0 m 22 ls []) := by
  intro n
  induction n with
  | zero =>
    intro x3 x6 σ H locs ls hl hP hS hD
    rw [L_X5_worst_22] at hD
    cases hD
  | succ n ih =>
    intro x3 x6 σ H locs ls hl hP hS hD
    rw [L_X5_worst_22] at hD
    refine lv_iload C.1 C.2.1 dX5_worst_22 (lv_at hl 3 rfl) ?_
    refine lv_iload C.1 C.2.1 dX5_worst_24 (lv_at hl 2 rfl) ?_
    refine lv_icmp_ge (tgt := 49) C.1 C.2.1 dX5_worst_26 (by decide) (fun c2 => ?_) (fun c2 => ?_)
    · have hD := b_t c2 hD
      refine lv_iload_n C.1 C.2.1 dX5_worst_49 rfl (lv_at hl 0 rfl) ?_
      cases hD
      exact ri_X C hr hP hS dX5_worst_50
    · have hD := b_f c2 hD
      refine lv_aload C.1 C.2.1 dX5_worst_29 (lv_at hl 1 rfl) ?_
      refine lv_iload C.1 C.2.1 dX5_worst_31 (lv_at hl 3 rfl) ?_
      obtain ⟨hi3, hD⟩ := gi_some hD
      refine iaX C hP 27 rfl hi3 dX5_worst_33 ?_
      refine lv_istore (lv' := [(7, .int (σ 27 x6.toNatClampNeg)), (3, .int x3), (4, .ref (g.2.2 27)), (5, .int x5), (6, .int x6)]) C.1 C.2.1 dX5_worst_34 hl (by decide) rfl (fun ls hl => ?_)
      refine lv_iload_n C.1 C.2.1 dX5_worst_36 rfl (lv_at hl 1 rfl) ?_
      refine lv_iload C.1 C.2.1 dX5_worst_37 (lv_at hl 0 rfl) ?_
      refine mx_X C kw_X5_47 hl.1 (Nat.le_of_ble_eq_true rfl) (Nat.le_of_ble_eq_true rfl) ⟨Nat.zero_le _, Nat.zero_le _⟩ dX5_worst_39 ?_
      refine lv_istore_n (lv' := [(3, .int (if x3 < (σ 27 x6.toNatClampNeg) then (σ 27 x6.toNatClampNeg) else x3)), (7, .int (σ 27 x6.toNatClampNeg)), (4, .ref (g.2.2 27)), (5, .int x5), (6, .int x6)]) C.1 C.2.1 dX5_worst_42 rfl hl (by decide) rfl (fun ls hl => ?_)
      refine lv_iinc (v := x6 + (1 : Int32)) (lv' := [(6, .int (x6 + (1 : Int32))), (3, .int (if x3 < (σ 27 x6.toNatClampNeg) then (σ 27 x6.toNatClampNeg) else x3)), (7, .int (σ 27 x6.toNatClampNeg)), (4, .ref (g.2.2 27)), (5, .int x5)]) C.1 C.2.1 dX5_worst_43 hl (k := 4) rfl rfl (by decide) rfl (fun ls hl => ?_)
      refine lv_goto (tgt := 22) C.1 C.2.1 dX5_worst_46 (by decide) ?_
      exact ih (if x3 < (σ 27 x6.toNatClampNeg) then (σ 27 x6.toNatClampNeg) else x3) (x6 + (1 : Int32)) σ H locs ls (lv_sub hl [1, 3, 4, 0] rfl) hP hS hD
set_option maxHeartbeats 4000000 in
set_option maxRecDepth 100000 in
theorem c_X5_worst (l : Launch) (g : Gx) (sz : Nat) (N : Nat) (σ : St) (k1 : Nat) (x2 : Int32) {r : Int32} {u : St} (hD : D_X5_worst N σ k1 x2 = some (r, u)) : Met l yX5_worst (Cond.code yX5_worst cX5_worst 8 (some .int) :: tb) rm_X5_worst (PcX g [.ref (g.2.2 24), .ref (g.2.2 (4 + k1)), .int x2] σ sz) (QiX g (AX g sz) r u) 0 0 (AX g sz) := by
  refine Met.ofW (cc := cX5_worst) (maxL := 8) (ret := some .int) (by decide) rfl ?_
  intro p e s m args below meth c s₁ B hml hv
  have hv0 := hv
  obtain ⟨rfl, hsz, hP, -⟩ := hv
  subst hsz
  have C : CX g (AX g s.heap.size) p s m _ meth c cX5_worst 8 RX5 := CX.of B hml (fun w h => List.mem_cons_of_mem _ h) rfl hv0
  have hr := B.returns
  have hS : va_S (AX g s.heap.size) s.heap s.heap [] := va_S.rf
  have hl := lv_entry ([.ref (g.2.2 24), .ref (g.2.2 (4 + k1)), .int x2]) (n := 8) (Nat.le_of_ble_eq_true rfl)
  rw [lg_entry_eq]
  generalize (lg_sl ([.ref (g.2.2 24), .ref (g.2.2 (4 + k1)), .int x2]) ++ List.replicate (8 - (lg_sl ([.ref (g.2.2 24), .ref (g.2.2 (4 + k1)), .int x2])).length) Slot.unset).toArray = ls at hl ⊢
  have hl : lv_has ls 8 [(0, .ref (g.2.2 24)), (1, .ref (g.2.2 (4 + k1))), (2, .int x2)] := hl
  obtain ⟨H, hH⟩ : ∃ H, H = s.heap := ⟨_, rfl⟩
  have hP : va_P g.1 vwCl (wX g σ) H := by rw [hH]; exact hP
  have hS : va_S (AX g s.heap.size) s.heap H [] := by rw [hH]; exact hS
  refine wH hH ?_
  obtain ⟨locs, hlo⟩ : ∃ locs : List Loc, locs = [] := ⟨_, rfl⟩
  rw [← hlo] at hS
  refine wL hlo ?_
  unfold D_X5_worst at hD
  refine lv_aload_n C.1 C.2.1 dX5_worst_0 rfl (lv_at hl 0 rfl) ?_
  refine lv_aload_n C.1 C.2.1 dX5_worst_1 rfl (lv_at hl 1 rfl) ?_
  refine lv_iload_n C.1 C.2.1 dX5_worst_2 rfl (lv_at hl 2 rfl) ?_
  obtain ⟨s1, hd1, hD⟩ := bp_some hD
  refine kVv_X (As := [.ref (g.2.2 (4 + k1)), .int x2]) (rest := []) (ci := 5) (q0 := 24) C (c_X5_tally l g H.size N σ k1 x2 hd1) kw_X5_43 ⟨rfl, rfl⟩ ⟨Nat.le_of_ble_eq_true rfl, Nat.le_of_ble_eq_true rfl⟩ kv_X5_tally rfl rfl rfl hl.1 (Nat.le_of_ble_eq_true rfl) ⟨Nat.zero_le _, Nat.zero_le _⟩ dX5_worst_3 hP hS rfl (fun H locs hP hS => ?_)
  refine lv_iconst (v := (0 : Int32)) C.1 C.2.1 dX5_worst_6 (by decide) ?_
  refine lv_istore_n (lv' := [(3, .int (0 : Int32)), (0, .ref (g.2.2 24)), (1, .ref (g.2.2 (4 + k1))), (2, .int x2)]) C.1 C.2.1 dX5_worst_7 rfl hl (by decide) rfl (fun ls hl => ?_)
  refine lv_aload_n C.1 C.2.1 dX5_worst_8 rfl (lv_at hl 1 rfl) ?_
  refine gf_X5_19_24 C hP dX5_worst_9 ?_
  refine lv_astore (lv' := [(4, .ref (g.2.2 27)), (3, .int (0 : Int32)), (0, .ref (g.2.2 24)), (1, .ref (g.2.2 (4 + k1))), (2, .int x2)]) C.1 C.2.1 dX5_worst_12 hl (by decide) rfl (fun ls hl => ?_)
  refine lv_aload C.1 C.2.1 dX5_worst_14 (lv_at hl 0 rfl) ?_
  refine alX C hP 27 (v := (31 : Int32)) rfl (by decide) dX5_worst_16 ?_
  refine lv_istore (lv' := [(5, .int (31 : Int32)), (4, .ref (g.2.2 27)), (3, .int (0 : Int32)), (0, .ref (g.2.2 24)), (1, .ref (g.2.2 (4 + k1))), (2, .int x2)]) C.1 C.2.1 dX5_worst_17 hl (by decide) rfl (fun ls hl => ?_)
  refine lv_iconst (v := (0 : Int32)) C.1 C.2.1 dX5_worst_19 (by decide) ?_
  refine lv_istore (lv' := [(6, .int (0 : Int32)), (5, .int (31 : Int32)), (4, .ref (g.2.2 27)), (3, .int (0 : Int32)), (0, .ref (g.2.2 24)), (1, .ref (g.2.2 (4 + k1))), (2, .int x2)]) C.1 C.2.1 dX5_worst_20 hl (by decide) rfl (fun ls hl => ?_)
  exact w_L_X5_worst_22 C hr N (31 : Int32) N (0 : Int32) (0 : Int32) s1 H locs ls (lv_sub hl [3, 2, 1, 0] rfl) hP hS hD
abbrev rm_X5_bestRow : Room := { frames := 5, cells := 0, slots := 0, locals := 116 }
set_option maxHeartbeats 4000000 in
set_option maxRecDepth 100000 in
theorem w_J_X5_bestRow_52 (C : CX g A p s m args meth c cX5_bestRow 6 RX5) (hr : meth.sig.returnType = some .int) (N : Nat) {r : Int32} {u : St} (kc9 : Int32 → Int32 → Int32 → St → Option (Int32 × St)) (k1 : Nat) (x2 : Int32) (x3 : Int32) (x4 : Int32) (t0 : Int32) (t1 : Int32) (hk9 : ∀ (x2 : Int32) (x3 : Int32) (x4 : Int32) (σ : St) (H : Heap) (locs : List Loc) (ls : Array Slot), lv_has ls 6 [(0, .ref (g.2.2 24)), (1, .ref (g.2.2 (4 + k1))), (2, .int x2), (3, .int x3), (4, .int x4)] → va_P g.1 vwCl (wX g σ) H → va_S A s.heap H locs → kc9 x2 x3 x4 σ = some (r, u) → W p l e rm_X5_bestRow s m args below meth c H locs 0 0 (MQ below (QiX g A r u) args s 0 0 A) (F0 m 9 ls [])) : ∀ (σ : St) (H : Heap) (locs : List Loc) (ls : Array Slot), lv_has ls 6 [(0, .ref (g.2.2 24)), (1, .ref (g.2.2 (4 + k1))), (2, .int x2), (3, .int x3), (4, .int x4)] → va_P g.1 vwCl (wX g σ) H → va_S A s.heap H locs → J_X5_bestRow_52 N kc9 k1 x2 x3 x4 t0 t1 σ = some (r, u) → W p l e rm_X5_bestRow s m args below meth c H locs 0 0 (MQ below (QiX g A r u) args s 0 0 A) (F0 m 52 ls [.int t1, .int t0]) := by
  intro σ H locs ls hl hP hS hD
  unfold J_X5_bestRow_52 at hD
  refine lv_iadd C.1 C.2.1 dX5_bestRow_52 ?_
  refine lv_istore (lv' := [(5, .int (t0 + t1)), (0, .ref (g.2.2 24)), (1, .ref (g.2.2 (4 + k1))), (2, .int x2), (3, .int x3), (4, .int x4)]) C.1 C.2.1 dX5_bestRow_53 hl (by decide) rfl (fun ls hl => ?_)
  refine lv_iload C.1 C.2.1 dX5_bestRow_55 (lv_at hl 0 rfl) ?_
  refine lv_iload_n C.1 C.2.1 dX5_bestRow_57 rfl (lv_at hl 4 rfl) ?_
  refine lv_icmp_ge (tgt := 67) C.1 C.2.1 dX5_bestRow_58 (by decide) (fun c6 => ?_) (fun c6 => ?_)
  · have hD := b_t c6 hD
    refine lv_iinc (v := x4 + (1 : Int32)) (lv' := [(4, .int (x4 + (1 : Int32))), (5, .int (t0 + t1)), (0, .ref (g.2.2 24)), (1, .ref (g.2.2 (4 + k1))), (2, .int x2), (3, .int x3)]) C.1 C.2.1 dX5_bestRow_67 hl (k := 5) rfl rfl (by decide) rfl (fun ls hl => ?_)
    refine lv_goto (tgt := 9) C.1 C.2.1 dX5_bestRow_70 (by decide) ?_
    exact hk9 x2 x3 (x4 + (1 : Int32)) σ H locs ls (lv_sub hl [2, 3, 4, 5, 0] rfl) hP hS hD
  · have hD := b_f c6 hD
    refine lv_iload C.1 C.2.1 dX5_bestRow_61 (lv_at hl 0 rfl) ?_
    refine lv_istore_n (lv' := [(3, .int (t0 + t1)), (5, .int (t0 + t1)), (0, .ref (g.2.2 24)), (1, .ref (g.2.2 (4 + k1))), (2, .int x2), (4, .int x4)]) C.1 C.2.1 dX5_bestRow_63 rfl hl (by decide) rfl (fun ls hl => ?_)
    refine lv_iload C.1 C.2.1 dX5_bestRow_64 (lv_at hl 5 rfl) ?_
    refine lv_istore_n (lv' := [(2, .int x4), (3, .int (t0 + t1)), (5, .int (t0 + t1)), (0, .ref (g.2.2 24)), (1, .ref (g.2.2 (4 + k1))), (4, .int x4)]) C.1 C.2.1 dX5_bestRow_66 rfl hl (by decide) rfl (fun ls hl => ?_)
    refine lv_iinc (v := x4 + (1 : Int32)) (lv' := [(4, .int (x4 + (1 : Int32))), (2, .int x4), (3, .int (t0 + t1)), (5, .int (t0 + t1)), (0, .ref (g.2.2 24)), (1, .ref (g.2.2 (4 + k1)))]) C.1 C.2.1 dX5_bestRow_67 hl (k := 5) rfl rfl (by decide) rfl (fun ls hl => ?_)
    refine lv_goto (tgt := 9) C.1 C.2.1 dX5_bestRow_70 (by decide) ?_
    exact hk9 x4 (t0 + t1) (x4 + (1 : Int32)) σ H locs ls (lv_sub hl [4, 5, 1, 2, 0] rfl) hP hS hD
set_option maxHeartbeats 4000000 in
set_option maxRecDepth 100000 in
theorem w_L_X5_bestRow_9 (C : CX g A p s m args meth c cX5_bestRow 6 RX5) (hr : meth.sig.returnType = some .int) (N : Nat) {r : Int32} {u : St} (k1 : Nat) : ∀ (n : Nat) (x2 : Int32) (x3 : Int32) (x4 : Int32) (σ : St) (H : Heap) (locs : List Loc) (ls : Array Slot), lv_has ls 6 [(0, .ref (g.2.2 24)), (1, .ref (g.2.2 (4 + k1))), (2, .int x2), (3, .int x3), (4, .int x4)] → va_P g.1 vwCl (wX g σ) H → va_S A s.heap H locs → L_X5_bestRow_9 N k1 n x2 x3 x4 σ = some (r, u) → W p l e rm_X5_bestRow s m args below meth c H locs 0 0 (MQ below (QiX g A r u) args s 0 0 A) (F0 m 9 ls []) := by
  intro n
  induction n with
  | zero =>
    intro x2 x3 x4 σ H locs ls hl hP hS hD
    rw [L_X5_bestRow_9] at hD
    cases hD
  | succ n ih =>
    intro x2 x3 x4 σ H locs ls hl hP hS hD
    rw [L_X5_bestRow_9] at hD
    refine lv_iload C.1 C.2.1 dX5_bestRow_9 (lv_at hl 4 rfl) ?_
    refine lv_aload_n C.1 C.2.1 dX5_bestRow_11 rfl (lv_at hl 0 rfl) ?_
    refine gf_X5_22_24 C hP dX5_bestRow_12 ?_
    refine gf_X5_26_20 C hP dX5_bestRow_15 ?_
    refine lv_icmp_ge (tgt := 73) C.1 C.2.1 dX5_bestRow_18 (by decide) (fun c1 => ?_) (fun c1 => ?_)
    · have hD := b_t c1 hD
      refine lv_iload_n C.1 C.2.1 dX5_bestRow_73 rfl (lv_at hl 2 rfl) ?_
      cases hD
      exact ri_X C hr hP hS dX5_bestRow_74
    · have hD := b_f c1 hD
      refine lv_aload_n C.1 C.2.1 dX5_bestRow_21 rfl (lv_at hl 0 rfl) ?_
      refine gf_X5_32_24 C hP dX5_bestRow_22 ?_
      refine lv_if_le (tgt := 73) C.1 C.2.1 dX5_bestRow_25 (by decide) (fun c2 => ?_) (fun c2 => ?_)
      · have hD := b_t c2 hD
        refine lv_iload_n C.1 C.2.1 dX5_bestRow_73 rfl (lv_at hl 2 rfl) ?_
        cases hD
        exact ri_X C hr hP hS dX5_bestRow_74
      · have hD := b_f c2 hD
        refine lv_iconst (v := (2 : Int32)) C.1 C.2.1 dX5_bestRow_28 (by decide) ?_
        refine lv_aload_n C.1 C.2.1 dX5_bestRow_29 rfl (lv_at hl 0 rfl) ?_
        refine lv_aload_n C.1 C.2.1 dX5_bestRow_30 rfl (lv_at hl 1 rfl) ?_
        refine lv_iload C.1 C.2.1 dX5_bestRow_31 (lv_at hl 4 rfl) ?_
        obtain ⟨r3, s3, hd3, hD⟩ := bs_some hD
        refine kVi_X (As := [.ref (g.2.2 (4 + k1)), .int x4]) (rest := [.int (2 : Int32)]) (ci := 5) (q0 := 24) C (c_X5_worst l g H.size N σ k1 x4 hd3) kw_X5_39 ⟨rfl, rfl⟩ ⟨Nat.le_of_ble_eq_true rfl, Nat.le_of_ble_eq_true rfl⟩ kv_X5_worst rfl rfl rfl hl.1 (Nat.le_of_ble_eq_true rfl) ⟨Nat.zero_le _, Nat.zero_le _⟩ dX5_bestRow_33 hP hS rfl (fun H locs hP hS => ?_)
        refine lv_imul C.1 C.2.1 dX5_bestRow_36 ?_
        refine lv_aload_n C.1 C.2.1 dX5_bestRow_37 rfl (lv_at hl 0 rfl) ?_
        refine gf_X5_15_24 C hP dX5_bestRow_38 ?_
        refine lv_iload C.1 C.2.1 dX5_bestRow_41 (lv_at hl 4 rfl) ?_
        obtain ⟨hi4, hD⟩ := gi_some hD
        refine zaX C hP 26 rfl hi4 dX5_bestRow_43 ?_
        refine lv_if_eq (tgt := 51) C.1 C.2.1 dX5_bestRow_44 (by decide) (fun c5 => ?_) (fun c5 => ?_)
        · have hD := b_t c5 hD
          refine lv_iconst (v := (1 : Int32)) C.1 C.2.1 dX5_bestRow_51 (by decide) ?_
          exact w_J_X5_bestRow_52 C hr N (L_X5_bestRow_9 N k1 n) k1 x2 x3 x4 ((2 : Int32) * r3) (1 : Int32) ih s3 H locs ls (lv_sub hl [0, 1, 2, 3, 4] rfl) hP hS hD
        · have hD := b_f c5 hD
          refine lv_iconst (v := (0 : Int32)) C.1 C.2.1 dX5_bestRow_47 (by decide) ?_
          refine lv_goto (tgt := 52) C.1 C.2.1 dX5_bestRow_48 (by decide) ?_
          exact w_J_X5_bestRow_52 C hr N (L_X5_bestRow_9 N k1 n) k1 x2 x3 x4 ((2 : Int32) * r3) (0 : Int32) ih s3 H locs ls (lv_sub hl [0, 1, 2, 3, 4] rfl) hP hS hD
set_option maxHeartbeats 4000000 in
set_option maxRecDepth 100000 in
theorem c_X5_bestRow (l : Launch) (g : Gx) (sz : Nat) (N : Nat) (σ : St) (k1 : Nat) {r : Int32} {u : St} (hD : D_X5_bestRow N σ k1 = some (r, u)) : Met l yX5_bestRow (Cond.code yX5_bestRow cX5_bestRow 6 (some .int) :: tb) rm_X5_bestRow (PcX g [.ref (g.2.2 24), .ref (g.2.2 (4 + k1))] σ sz) (QiX g (AX g sz) r u) 0 0 (AX g sz) := by
  refine Met.ofW (cc := cX5_bestRow) (maxL := 6) (ret := some .int) (by decide) rfl ?_
  intro p e s m args below meth c s₁ B hml hv
  have hv0 := hv
  obtain ⟨rfl, hsz, hP, -⟩ := hv
  subst hsz
  have C : CX g (AX g s.heap.size) p s m _ meth c cX5_bestRow 6 RX5 := CX.of B hml (fun w h => List.mem_cons_of_mem _ h) rfl hv0
  have hr := B.returns
  have hS : va_S (AX g s.heap.size) s.heap s.heap [] := va_S.rf
  have hl := lv_entry ([.ref (g.2.2 24), .ref (g.2.2 (4 + k1))]) (n := 6) (Nat.le_of_ble_eq_true rfl)
  rw [lg_entry_eq]
  generalize (lg_sl ([.ref (g.2.2 24), .ref (g.2.2 (4 + k1))]) ++ List.replicate (6 - (lg_sl ([.ref (g.2.2 24), .ref (g.2.2 (4 + k1))])).length) Slot.unset).toArray = ls at hl ⊢
  have hl : lv_has ls 6 [(0, .ref (g.2.2 24)), (1, .ref (g.2.2 (4 + k1)))] := hl
  obtain ⟨H, hH⟩ : ∃ H, H = s.heap := ⟨_, rfl⟩
  have hP : va_P g.1 vwCl (wX g σ) H := by rw [hH]; exact hP
  have hS : va_S (AX g s.heap.size) s.heap H [] := by rw [hH]; exact hS
  refine wH hH ?_
  obtain ⟨locs, hlo⟩ : ∃ locs : List Loc, locs = [] := ⟨_, rfl⟩
  rw [← hlo] at hS
  refine wL hlo ?_
  unfold D_X5_bestRow at hD
  refine lv_iconst (v := (-1 : Int32)) C.1 C.2.1 dX5_bestRow_0 (by decide) ?_
  refine lv_istore_n (lv' := [(2, .int (-1 : Int32)), (0, .ref (g.2.2 24)), (1, .ref (g.2.2 (4 + k1)))]) C.1 C.2.1 dX5_bestRow_1 rfl hl (by decide) rfl (fun ls hl => ?_)
  refine lv_sipush (v := (434 : Int32)) C.1 C.2.1 dX5_bestRow_2 (by decide) ?_
  refine lv_istore_n (lv' := [(3, .int (434 : Int32)), (2, .int (-1 : Int32)), (0, .ref (g.2.2 24)), (1, .ref (g.2.2 (4 + k1)))]) C.1 C.2.1 dX5_bestRow_5 rfl hl (by decide) rfl (fun ls hl => ?_)
  refine lv_iconst (v := (0 : Int32)) C.1 C.2.1 dX5_bestRow_6 (by decide) ?_
  refine lv_istore (lv' := [(4, .int (0 : Int32)), (3, .int (434 : Int32)), (2, .int (-1 : Int32)), (0, .ref (g.2.2 24)), (1, .ref (g.2.2 (4 + k1)))]) C.1 C.2.1 dX5_bestRow_7 hl (by decide) rfl (fun ls hl => ?_)
  exact w_L_X5_bestRow_9 C hr N k1 N (-1 : Int32) (434 : Int32) (0 : Int32) σ H locs ls (lv_sub hl [3, 4, 2, 1, 0] rfl) hP hS hD
abbrev rm_X11_best : Room := { frames := 6, cells := 0, slots := 0, locals := 141 }
set_option maxHeartbeats 4000000 in
set_option maxRecDepth 100000 in
theorem c_X11_best (l : Launch) (g : Gx) (sz : Nat) (N : Nat) (σ : St) (x1 : Int32) (x2 : Int32) {r : Int32} {u : St} (hD : D_X11_best N σ x1 x2 = some (r, u)) : Met l yX11_best (Cond.code yX11_best cX11_best 4 (some .int) :: tb) rm_X11_best (PcX g [.ref (g.2.2 0), .int x1, .int x2] σ sz) (QiX g (AX g sz) r u) 0 0 (AX g sz) := by
  refine Met.ofW (cc := cX11_best) (maxL := 4) (ret := some .int) (by decide) rfl ?_
  intro p e s m args below meth c s₁ B hml hv
  have hv0 := hv
  obtain ⟨rfl, hsz, hP, -⟩ := hv
  subst hsz
  have C : CX g (AX g s.heap.size) p s m _ meth c cX11_best 4 RX11 := CX.of B hml (fun w h => List.mem_cons_of_mem _ h) rfl hv0
  have hr := B.returns
  have hS : va_S (AX g s.heap.size) s.heap s.heap [] := va_S.rf
  have hl := lv_entry ([.ref (g.2.2 0), .int x1, .int x2]) (n := 4) (Nat.le_of_ble_eq_true rfl)
  rw [lg_entry_eq]
  generalize (lg_sl ([.ref (g.2.2 0), .int x1, .int x2]) ++ List.replicate (4 - (lg_sl ([.ref (g.2.2 0), .int x1, .int x2])).length) Slot.unset).toArray = ls at hl ⊢
  have hl : lv_has ls 4 [(0, .ref (g.2.2 0)), (1, .int x1), (2, .int x2)] := hl
  obtain ⟨H, hH⟩ : ∃ H, H = s.heap := ⟨_, rfl⟩
  have hP : va_P g.1 vwCl (wX g σ) H := by rw [hH]; exact hP
  have hS : va_S (AX g s.heap.size) s.heap H [] := by rw [hH]; exact hS
  refine wH hH ?_
  obtain ⟨locs, hlo⟩ : ∃ locs : List Loc, locs = [] := ⟨_, rfl⟩
  rw [← hlo] at hS
  refine wL hlo ?_
  unfold D_X11_best at hD
  refine lv_aload_n C.1 C.2.1 dX11_best_0 rfl (lv_at hl 0 rfl) ?_
  refine lv_iload_n C.1 C.2.1 dX11_best_1 rfl (lv_at hl 1 rfl) ?_
  obtain ⟨r1, hd1, hD⟩ := bp_some hD
  refine kVi_X (As := [.int x1]) (rest := []) (ci := 11) (q0 := 0) C (c_X11_isJudge l g H.size σ x1 hd1) kw_X11_134 ⟨rfl, rfl⟩ ⟨Nat.le_of_ble_eq_true rfl, Nat.le_of_ble_eq_true rfl⟩ kv_X11_isJudge rfl rfl rfl hl.1 (Nat.le_of_ble_eq_true rfl) ⟨Nat.zero_le _, Nat.zero_le _⟩ dX11_best_2 hP hS rfl (fun H locs hP hS => ?_)
  refine lv_if_ne (tgt := 11) C.1 C.2.1 dX11_best_5 (by decide) (fun c2 => ?_) (fun c2 => ?_)
  · have hD := b_f c2 hD
    refine lv_iload_n C.1 C.2.1 dX11_best_11 rfl (lv_at hl 2 rfl) ?_
    refine lv_if_lt (tgt := 20) C.1 C.2.1 dX11_best_12 (by decide) (fun c3 => ?_) (fun c3 => ?_)
    · have hD := b_t c3 hD
      refine lv_bipush (v := (-102 : Int32)) C.1 C.2.1 dX11_best_20 (by decide) ?_
      cases hD
      exact ri_X C hr hP hS dX11_best_22
    · have hD := b_f c3 hD
      refine lv_iload_n C.1 C.2.1 dX11_best_15 rfl (lv_at hl 2 rfl) ?_
      refine lv_iconst (v := (1 : Int32)) C.1 C.2.1 dX11_best_16 (by decide) ?_
      refine lv_icmp_le (tgt := 23) C.1 C.2.1 dX11_best_17 (by decide) (fun c4 => ?_) (fun c4 => ?_)
      · have hD := b_t c4 hD
        refine lv_aload_n C.1 C.2.1 dX11_best_23 rfl (lv_at hl 0 rfl) ?_
        refine gf_X11_199_0 C hP dX11_best_24 ?_
        refine lv_bipush (v := (24 : Int32)) C.1 C.2.1 dX11_best_27 (by decide) ?_
        refine lv_icmp_lt (tgt := 35) C.1 C.2.1 dX11_best_29 (by decide) (fun c5 => ?_) (fun c5 => ?_)
        · have hD := b_t c5 hD
          refine lv_aload_n C.1 C.2.1 dX11_best_35 rfl (lv_at hl 0 rfl) ?_
          refine lv_dup C.1 C.2.1 dX11_best_36 rfl ?_
          refine gf_X11_199_0 C hP dX11_best_37 ?_
          refine lv_iconst (v := (1 : Int32)) C.1 C.2.1 dX11_best_40 (by decide) ?_
          refine lv_iadd C.1 C.2.1 dX11_best_41 ?_
          refine pf_X11_199_0 C hP hS dX11_best_42 (fun H locs hP hS => ?_)
          refine lv_aload_n C.1 C.2.1 dX11_best_45 rfl (lv_at hl 0 rfl) ?_
          obtain ⟨r6, s6, hd6, hD⟩ := bs_some hD
          refine kVi_X (As := []) (rest := []) (ci := 11) (q0 := 0) C (c_X11_gatherFitting l g H.size N (pt σ 0 12 ((σ 0 12) + (1 : Int32))) hd6) kw_X11_190 ⟨rfl, rfl⟩ ⟨Nat.le_of_ble_eq_true rfl, Nat.le_of_ble_eq_true rfl⟩ kv_X11_gatherFitting rfl rfl rfl hl.1 (Nat.le_of_ble_eq_true rfl) ⟨Nat.zero_le _, Nat.zero_le _⟩ dX11_best_46 hP hS rfl (fun H locs hP hS => ?_)
          refine lv_pop C.1 C.2.1 dX11_best_49 rfl ?_
          refine lv_aload_n C.1 C.2.1 dX11_best_50 rfl (lv_at hl 0 rfl) ?_
          refine gf_X11_61_0 C hP dX11_best_51 ?_
          refine lv_aload_n C.1 C.2.1 dX11_best_54 rfl (lv_at hl 0 rfl) ?_
          refine lv_iload_n C.1 C.2.1 dX11_best_55 rfl (lv_at hl 1 rfl) ?_
          obtain ⟨r7, hd7, hD⟩ := bp_some hD
          refine kVr_X (As := [.int x1]) (rest := [.ref (g.2.2 24)]) (ci := 11) (q0 := 0) C (c_X11_judgeAt l g H.size s6 x1 hd7) kw_X11_147 ⟨rfl, rfl⟩ ⟨Nat.le_of_ble_eq_true rfl, Nat.le_of_ble_eq_true rfl⟩ kv_X11_judgeAt rfl rfl rfl hl.1 (Nat.le_of_ble_eq_true rfl) ⟨Nat.zero_le _, Nat.zero_le _⟩ dX11_best_56 hP hS rfl (fun H locs hP hS => ?_)
          obtain ⟨r8, s8, hd8, hD⟩ := bs_some hD
          refine kVi_X (As := [.ref (g.2.2 (4 + r7))]) (rest := []) (ci := 5) (q0 := 24) C (c_X5_bestRow l g H.size N s6 r7 hd8) kw_X11_202 ⟨rfl, rfl⟩ ⟨Nat.le_of_ble_eq_true rfl, Nat.le_of_ble_eq_true rfl⟩ kv_X5_bestRow rfl rfl rfl hl.1 (Nat.le_of_ble_eq_true rfl) ⟨Nat.zero_le _, Nat.zero_le _⟩ dX11_best_59 hP hS rfl (fun H locs hP hS => ?_)
          refine lv_istore_n (lv' := [(3, .int r8), (0, .ref (g.2.2 0)), (1, .int x1), (2, .int x2)]) C.1 C.2.1 dX11_best_62 rfl hl (by decide) rfl (fun ls hl => ?_)
          refine lv_iload_n C.1 C.2.1 dX11_best_63 rfl (lv_at hl 3 rfl) ?_
          refine lv_if_ne (tgt := 69) C.1 C.2.1 dX11_best_64 (by decide) (fun c9 => ?_) (fun c9 => ?_)
          · have hD := b_f c9 hD
            refine lv_iload_n C.1 C.2.1 dX11_best_69 rfl (lv_at hl 0 rfl) ?_
            refine lv_iconst (v := (-1 : Int32)) C.1 C.2.1 dX11_best_70 (by decide) ?_
            refine lv_icmp_ne (tgt := 78) C.1 C.2.1 dX11_best_71 (by decide) (fun c10 => ?_) (fun c10 => ?_)
            · have hD := b_f c10 hD
              refine lv_aload_n C.1 C.2.1 dX11_best_78 rfl (lv_at hl 1 rfl) ?_
              refine gf_X11_61_0 C hP dX11_best_79 ?_
              refine lv_aload_n C.1 C.2.1 dX11_best_82 rfl (lv_at hl 1 rfl) ?_
              refine lv_iload_n C.1 C.2.1 dX11_best_83 rfl (lv_at hl 2 rfl) ?_
              obtain ⟨r11, hd11, hD⟩ := bp_some hD
              refine kVr_X (As := [.int x1]) (rest := [.ref (g.2.2 24)]) (ci := 11) (q0 := 0) C (c_X11_judgeAt l g H.size s8 x1 hd11) kw_X11_147 ⟨rfl, rfl⟩ ⟨Nat.le_of_ble_eq_true rfl, Nat.le_of_ble_eq_true rfl⟩ kv_X11_judgeAt rfl rfl rfl hl.1 (Nat.le_of_ble_eq_true rfl) ⟨Nat.zero_le _, Nat.zero_le _⟩ dX11_best_84 hP hS rfl (fun H locs hP hS => ?_)
              refine lv_iload_n C.1 C.2.1 dX11_best_87 rfl (lv_at hl 0 rfl) ?_
              obtain ⟨r12, s12, hd12, hD⟩ := bs_some hD
              refine kVi_X (As := [.ref (g.2.2 (4 + r11)), .int r8]) (rest := []) (ci := 5) (q0 := 24) C (c_X5_worst l g H.size N s8 r11 r8 hd12) kw_X11_205 ⟨rfl, rfl⟩ ⟨Nat.le_of_ble_eq_true rfl, Nat.le_of_ble_eq_true rfl⟩ kv_X5_worst rfl rfl rfl hl.1 (Nat.le_of_ble_eq_true rfl) ⟨Nat.zero_le _, Nat.zero_le _⟩ dX11_best_88 hP hS rfl (fun H locs hP hS => ?_)
              cases hD
              exact ri_X C hr hP hS dX11_best_91
            · have hD := b_t c10 hD
              refine lv_iconst (v := (0 : Int32)) C.1 C.2.1 dX11_best_74 (by decide) ?_
              refine lv_goto (tgt := 91) C.1 C.2.1 dX11_best_75 (by decide) ?_
              cases hD
              exact ri_X C hr hP hS dX11_best_91
          · have hD := b_t c9 hD
            refine lv_iload_n C.1 C.2.1 dX11_best_67 rfl (lv_at hl 0 rfl) ?_
            cases hD
            exact ri_X C hr hP hS dX11_best_68
        · have hD := b_f c5 hD
          refine lv_bipush (v := (-103 : Int32)) C.1 C.2.1 dX11_best_32 (by decide) ?_
          cases hD
          exact ri_X C hr hP hS dX11_best_34
      · have hD := b_f c4 hD
        refine lv_bipush (v := (-102 : Int32)) C.1 C.2.1 dX11_best_20 (by decide) ?_
        cases hD
        exact ri_X C hr hP hS dX11_best_22
  · have hD := b_t c2 hD
    refine lv_bipush (v := (-101 : Int32)) C.1 C.2.1 dX11_best_8 (by decide) ?_
    cases hD
    exact ri_X C hr hP hS dX11_best_10
abbrev rm_X11_blank : Room := { frames := 0, cells := 0, slots := 0, locals := 0 }
set_option maxHeartbeats 4000000 in
set_option maxRecDepth 100000 in
theorem c_X11_blank (l : Launch) (g : Gx) (sz : Nat) (σ : St) {r : Int32} {u : St} (hD : D_X11_blank σ = some (r, u)) : Met l yX11_blank (Cond.code yX11_blank cX11_blank 2 (some .int) :: tb) rm_X11_blank (PcX g [.ref (g.2.2 0)] σ sz) (QiX g (AX g sz) r u) 0 0 (AX g sz) := by
  refine Met.ofW (cc := cX11_blank) (maxL := 2) (ret := some .int) (by decide) rfl ?_
  intro p e s m args below meth c s₁ B hml hv
  have hv0 := hv
  obtain ⟨rfl, hsz, hP, -⟩ := hv
  subst hsz
  have C : CX g (AX g s.heap.size) p s m _ meth c cX11_blank 2 RX11 := CX.of B hml (fun w h => List.mem_cons_of_mem _ h) rfl hv0
  have hr := B.returns
  have hS : va_S (AX g s.heap.size) s.heap s.heap [] := va_S.rf
  have hl := lv_entry ([.ref (g.2.2 0)]) (n := 2) (Nat.le_of_ble_eq_true rfl)
  rw [lg_entry_eq]
  generalize (lg_sl ([.ref (g.2.2 0)]) ++ List.replicate (2 - (lg_sl ([.ref (g.2.2 0)])).length) Slot.unset).toArray = ls at hl ⊢
  have hl : lv_has ls 2 [(0, .ref (g.2.2 0))] := hl
  obtain ⟨H, hH⟩ : ∃ H, H = s.heap := ⟨_, rfl⟩
  have hP : va_P g.1 vwCl (wX g σ) H := by rw [hH]; exact hP
  have hS : va_S (AX g s.heap.size) s.heap H [] := by rw [hH]; exact hS
  refine wH hH ?_
  obtain ⟨locs, hlo⟩ : ∃ locs : List Loc, locs = [] := ⟨_, rfl⟩
  rw [← hlo] at hS
  refine wL hlo ?_
  unfold D_X11_blank at hD
  refine lv_aload_n C.1 C.2.1 dX11_blank_0 rfl (lv_at hl 0 rfl) ?_
  refine gf_X11_12_0 C hP dX11_blank_1 ?_
  refine gf_X11_81_1 C hP dX11_blank_4 ?_
  refine lv_istore_n (lv' := [(1, .int (σ 1 1)), (0, .ref (g.2.2 0))]) C.1 C.2.1 dX11_blank_7 rfl hl (by decide) rfl (fun ls hl => ?_)
  refine lv_aload_n C.1 C.2.1 dX11_blank_8 rfl (lv_at hl 1 rfl) ?_
  refine gf_X11_12_0 C hP dX11_blank_9 ?_
  refine lv_iconst (v := (0 : Int32)) C.1 C.2.1 dX11_blank_12 (by decide) ?_
  refine pf_X11_81_1 C hP hS dX11_blank_13 (fun H locs hP hS => ?_)
  refine lv_iload_n C.1 C.2.1 dX11_blank_16 rfl (lv_at hl 0 rfl) ?_
  cases hD
  exact ri_X C hr hP hS dX11_blank_17
abbrev rm_X11_commonDivisor : Room := { frames := 1, cells := 0, slots := 0, locals := 21 }
set_option maxHeartbeats 4000000 in
set_option maxRecDepth 100000 in
theorem w_J_X11_commonDivisor_34 (C : CX g A p s m args meth c cX11_commonDivisor 6 RX11) (hr : meth.sig.returnType = some .int) (N : Nat) (σ : St) {r : Int32} (x2 : Int32) : ∀  (H : Heap) (locs : List Loc) (ls : Array Slot), lv_has ls 6 [(2, .int x2)] → va_P g.1 vwCl (wX g σ) H → va_S A s.heap H locs → J_X11_commonDivisor_34 N x2 = some r → W p l e rm_X11_commonDivisor s m args below meth c H locs 0 0 (MQ below (QiX g A r σ) args s 0 0 A) (F0 m 34 ls []) := by
  intro  H locs ls hl hP hS hD
  unfold J_X11_commonDivisor_34 at hD
  refine lv_iload_n C.1 C.2.1 dX11_commonDivisor_34 rfl (lv_at hl 0 rfl) ?_
  refine lv_iconst (v := (1 : Int32)) C.1 C.2.1 dX11_commonDivisor_35 (by decide) ?_
  refine mx_X C kw_X11_222 hl.1 (Nat.le_of_ble_eq_true rfl) (Nat.le_of_ble_eq_true rfl) ⟨Nat.zero_le _, Nat.zero_le _⟩ dX11_commonDivisor_36 ?_
  cases hD
  exact ri_X C hr hP hS dX11_commonDivisor_39
set_option maxHeartbeats 4000000 in
set_option maxRecDepth 100000 in
theorem w_L_X11_commonDivisor_7 (C : CX g A p s m args meth c cX11_commonDivisor 6 RX11) (hr : meth.sig.returnType = some .int) (N : Nat) (σ : St) {r : Int32} : ∀ (n : Nat) (x2 : Int32) (x3 : Int32) (x4 : Int32) (H : Heap) (locs : List Loc) (ls : Array Slot), lv_has ls 6 [(2, .int x2), (3, .int x3), (4, .int x4)] → va_P g.1 vwCl (wX g σ) H → va_S A s.heap H locs → L_X11_commonDivisor_7 N n x2 x3 x4 = some r → W p l e rm_X11_commonDivisor s m args below meth c H locs 0 0 (MQ below (QiX g A r σ) args s 0 0 A) (F0 m 7 ls []) := by
  intro n
  induction n with
  | zero =>
    intro x2 x3 x4 H locs ls hl hP hS hD
    rw [L_X11_commonDivisor_7] at hD
    cases hD
  | succ n ih =>
    intro x2 x3 x4 H locs ls hl hP hS hD
    rw [L_X11_commonDivisor_7] at hD
    refine lv_iload C.1 C.2.1 dX11_commonDivisor_7 (lv_at hl 2 rfl) ?_
    refine lv_bipush (v := (64 : Int32)) C.1 C.2.1 dX11_commonDivisor_9 (by decide) ?_
    refine lv_icmp_ge (tgt := 34) C.1 C.2.1 dX11_commonDivisor_11 (by decide) (fun c1 => ?_) (fun c1 => ?_)
    · have hD := b_t c1 hD
      exact w_J_X11_commonDivisor_34 C hr N σ x2 H locs ls (lv_sub hl [0] rfl) hP hS hD
    · have hD := b_f c1 hD
      refine lv_iload_n C.1 C.2.1 dX11_commonDivisor_14 rfl (lv_at hl 1 rfl) ?_
      refine lv_if_eq (tgt := 34) C.1 C.2.1 dX11_commonDivisor_15 (by decide) (fun c3 => ?_) (fun c3 => ?_)
      · have hD := b_t c3 hD
        exact w_J_X11_commonDivisor_34 C hr N σ x2 H locs ls (lv_sub hl [0] rfl) hP hS hD
      · have hD := b_f c3 hD
        refine lv_iload_n C.1 C.2.1 dX11_commonDivisor_18 rfl (lv_at hl 0 rfl) ?_
        refine lv_iload_n C.1 C.2.1 dX11_commonDivisor_19 rfl (lv_at hl 1 rfl) ?_
        obtain ⟨hz4, hD⟩ := gz_some hD
        refine lv_irem C.1 C.2.1 dX11_commonDivisor_20 hz4 ?_
        refine lv_istore (lv' := [(5, .int (x2 - x2 / x3 * x3)), (2, .int x2), (3, .int x3), (4, .int x4)]) C.1 C.2.1 dX11_commonDivisor_21 hl (by decide) rfl (fun ls hl => ?_)
        refine lv_iload_n C.1 C.2.1 dX11_commonDivisor_23 rfl (lv_at hl 2 rfl) ?_
        refine lv_istore_n (lv' := [(2, .int x3), (5, .int (x2 - x2 / x3 * x3)), (3, .int x3), (4, .int x4)]) C.1 C.2.1 dX11_commonDivisor_24 rfl hl (by decide) rfl (fun ls hl => ?_)
        refine lv_iload C.1 C.2.1 dX11_commonDivisor_25 (lv_at hl 1 rfl) ?_
        refine lv_istore_n (lv' := [(3, .int (x2 - x2 / x3 * x3)), (2, .int x3), (5, .int (x2 - x2 / x3 * x3)), (4, .int x4)]) C.1 C.2.1 dX11_commonDivisor_27 rfl hl (by decide) rfl (fun ls hl => ?_)
        refine lv_iinc (v := x4 + (1 : Int32)) (lv' := [(4, .int (x4 + (1 : Int32))), (3, .int (x2 - x2 / x3 * x3)), (2, .int x3), (5, .int (x2 - x2 / x3 * x3))]) C.1 C.2.1 dX11_commonDivisor_28 hl (k := 3) rfl rfl (by decide) rfl (fun ls hl => ?_)
        refine lv_goto (tgt := 7) C.1 C.2.1 dX11_commonDivisor_31 (by decide) ?_
        exact ih x3 (x2 - x2 / x3 * x3) (x4 + (1 : Int32)) H locs ls (lv_sub hl [2, 1, 0] rfl) hP hS hD
set_option maxHeartbeats 4000000 in
set_option maxRecDepth 100000 in
theorem c_X11_commonDivisor (l : Launch) (g : Gx) (sz : Nat) (N : Nat) (σ : St) (x0 : Int32) (x1 : Int32) {r : Int32} (hD : D_X11_commonDivisor N x0 x1 = some r) : Met l yX11_commonDivisor (Cond.code yX11_commonDivisor cX11_commonDivisor 6 (some .int) :: tb) rm_X11_commonDivisor (PcX g [.int x0, .int x1] σ sz) (QiX g (AX g sz) r σ) 0 0 (AX g sz) := by
  refine Met.ofW (cc := cX11_commonDivisor) (maxL := 6) (ret := some .int) (by decide) rfl ?_
  intro p e s m args below meth c s₁ B hml hv
  have hv0 := hv
  obtain ⟨rfl, hsz, hP, -⟩ := hv
  subst hsz
  have C : CX g (AX g s.heap.size) p s m _ meth c cX11_commonDivisor 6 RX11 := CX.of B hml (fun w h => List.mem_cons_of_mem _ h) rfl hv0
  have hr := B.returns
  have hS : va_S (AX g s.heap.size) s.heap s.heap [] := va_S.rf
  have hl := lv_entry ([.int x0, .int x1]) (n := 6) (Nat.le_of_ble_eq_true rfl)
  rw [lg_entry_eq]
  generalize (lg_sl ([.int x0, .int x1]) ++ List.replicate (6 - (lg_sl ([.int x0, .int x1])).length) Slot.unset).toArray = ls at hl ⊢
  have hl : lv_has ls 6 [(0, .int x0), (1, .int x1)] := hl
  obtain ⟨H, hH⟩ : ∃ H, H = s.heap := ⟨_, rfl⟩
  have hP : va_P g.1 vwCl (wX g σ) H := by rw [hH]; exact hP
  have hS : va_S (AX g s.heap.size) s.heap H [] := by rw [hH]; exact hS
  refine wH hH ?_
  obtain ⟨locs, hlo⟩ : ∃ locs : List Loc, locs = [] := ⟨_, rfl⟩
  rw [← hlo] at hS
  refine wL hlo ?_
  unfold D_X11_commonDivisor at hD
  refine lv_iload_n C.1 C.2.1 dX11_commonDivisor_0 rfl (lv_at hl 0 rfl) ?_
  refine lv_istore_n (lv' := [(2, .int x0), (0, .int x0), (1, .int x1)]) C.1 C.2.1 dX11_commonDivisor_1 rfl hl (by decide) rfl (fun ls hl => ?_)
  refine lv_iload_n C.1 C.2.1 dX11_commonDivisor_2 rfl (lv_at hl 2 rfl) ?_
  refine lv_istore_n (lv' := [(3, .int x1), (2, .int x0), (0, .int x0), (1, .int x1)]) C.1 C.2.1 dX11_commonDivisor_3 rfl hl (by decide) rfl (fun ls hl => ?_)
  refine lv_iconst (v := (0 : Int32)) C.1 C.2.1 dX11_commonDivisor_4 (by decide) ?_
  refine lv_istore (lv' := [(4, .int (0 : Int32)), (3, .int x1), (2, .int x0), (0, .int x0), (1, .int x1)]) C.1 C.2.1 dX11_commonDivisor_5 hl (by decide) rfl (fun ls hl => ?_)
  exact w_L_X11_commonDivisor_7 C hr N σ N x0 x1 (0 : Int32) H locs ls (lv_sub hl [2, 1, 0] rfl) hP hS hD
abbrev rm_X11_couldBe : Room := { frames := 3, cells := 0, slots := 0, locals := 65 }
set_option maxHeartbeats 4000000 in
set_option maxRecDepth 100000 in
theorem w_L_X11_couldBe_2 (C : CX g A p s m args meth c cX11_couldBe 4 RX11) (hr : meth.sig.returnType = some .boolean) (N : Nat) (σ : St) {r : Int32} (x1 : Int32) (k2 : Nat) : ∀ (n : Nat) (x3 : Int32) (H : Heap) (locs : List Loc) (ls : Array Slot), lv_has ls 4 [(0, .ref (g.2.2 0)), (1, .int x1), (2, .ref (g.2.2 (4 + k2))), (3, .int x3)] → va_P g.1 vwCl (wX g σ) H → va_S A s.heap H locs → L_X11_couldBe_2 N σ x1 k2 n x3 = some r → W p l e rm_X11_couldBe s m args below meth c H locs 0 0 (MQ below (QiX g A r σ) args s 0 0 A) (F0 m 2 ls []) := by
  intro n
  induction n with
  | zero =>
    intro x3 H locs ls hl hP hS hD
    rw [L_X11_couldBe_2] at hD
    cases hD
  | succ n ih =>
    intro x3 H locs ls hl hP hS hD
    rw [L_X11_couldBe_2] at hD
    refine lv_iload_n C.1 C.2.1 dX11_couldBe_2 rfl (lv_at hl 3 rfl) ?_
    refine lv_aload_n C.1 C.2.1 dX11_couldBe_3 rfl (lv_at hl 0 rfl) ?_
    refine gf_X11_42_0 C hP dX11_couldBe_4 ?_
    refine gf_X11_125_10 C hP dX11_couldBe_7 ?_
    refine lv_icmp_ge (tgt := 70) C.1 C.2.1 dX11_couldBe_10 (by decide) (fun c1 => ?_) (fun c1 => ?_)
    · have hD := b_t c1 hD
      refine lv_iconst (v := (1 : Int32)) C.1 C.2.1 dX11_couldBe_70 (by decide) ?_
      cases hD
      exact rz_X C hr (Or.inr rfl) hP hS dX11_couldBe_71
    · have hD := b_f c1 hD
      refine lv_aload_n C.1 C.2.1 dX11_couldBe_13 rfl (lv_at hl 0 rfl) ?_
      refine gf_X11_42_0 C hP dX11_couldBe_14 ?_
      refine gf_X11_181_10 C hP dX11_couldBe_17 ?_
      refine lv_iload_n C.1 C.2.1 dX11_couldBe_20 rfl (lv_at hl 3 rfl) ?_
      obtain ⟨hi2, hD⟩ := gi_some hD
      refine iaX C hP 13 rfl hi2 dX11_couldBe_21 ?_
      refine lv_iload_n C.1 C.2.1 dX11_couldBe_22 rfl (lv_at hl 1 rfl) ?_
      refine lv_icmp_ne (tgt := 64) C.1 C.2.1 dX11_couldBe_23 (by decide) (fun c3 => ?_) (fun c3 => ?_)
      · have hD := b_f c3 hD
        refine lv_iinc (v := x3 + (1 : Int32)) (lv' := [(3, .int (x3 + (1 : Int32))), (0, .ref (g.2.2 0)), (1, .int x1), (2, .ref (g.2.2 (4 + k2)))]) C.1 C.2.1 dX11_couldBe_64 hl (k := 3) rfl rfl (by decide) rfl (fun ls hl => ?_)
        refine lv_goto (tgt := 2) C.1 C.2.1 dX11_couldBe_67 (by decide) ?_
        exact ih (x3 + (1 : Int32)) H locs ls (lv_sub hl [1, 2, 3, 0] rfl) hP hS hD
      · have hD := b_t c3 hD
        refine lv_aload_n C.1 C.2.1 dX11_couldBe_26 rfl (lv_at hl 2 rfl) ?_
        refine lv_aload_n C.1 C.2.1 dX11_couldBe_27 rfl (lv_at hl 0 rfl) ?_
        refine gf_X11_57_0 C hP dX11_couldBe_28 ?_
        refine lv_aload_n C.1 C.2.1 dX11_couldBe_31 rfl (lv_at hl 0 rfl) ?_
        refine gf_X11_42_0 C hP dX11_couldBe_32 ?_
        refine gf_X11_178_10 C hP dX11_couldBe_35 ?_
        refine lv_iload_n C.1 C.2.1 dX11_couldBe_38 rfl (lv_at hl 3 rfl) ?_
        obtain ⟨hi4, hD⟩ := gi_some hD
        refine iaX C hP 12 rfl hi4 dX11_couldBe_39 ?_
        refine lv_aload_n C.1 C.2.1 dX11_couldBe_40 rfl (lv_at hl 0 rfl) ?_
        refine gf_X11_42_0 C hP dX11_couldBe_41 ?_
        refine gf_X11_122_10 C hP dX11_couldBe_44 ?_
        obtain ⟨r5, hd5, hD⟩ := bp_some hD
        refine kW_X11_174 C hd5 ⟨Nat.le_of_ble_eq_true rfl, Nat.le_of_ble_eq_true rfl⟩ hl.1 (Nat.le_of_ble_eq_true rfl) ⟨Nat.zero_le _, Nat.zero_le _⟩ dX11_couldBe_47 hP hS (fun H locs hP hS => ?_)
        refine lv_aload_n C.1 C.2.1 dX11_couldBe_50 rfl (lv_at hl 0 rfl) ?_
        refine gf_X11_42_0 C hP dX11_couldBe_51 ?_
        refine gf_X11_184_10 C hP dX11_couldBe_54 ?_
        refine lv_iload_n C.1 C.2.1 dX11_couldBe_57 rfl (lv_at hl 3 rfl) ?_
        obtain ⟨hi6, hD⟩ := gi_some hD
        refine iaX C hP 14 rfl hi6 dX11_couldBe_58 ?_
        refine lv_icmp_eq (tgt := 64) C.1 C.2.1 dX11_couldBe_59 (by decide) (fun c7 => ?_) (fun c7 => ?_)
        · have hD := b_t c7 hD
          refine lv_iinc (v := x3 + (1 : Int32)) (lv' := [(3, .int (x3 + (1 : Int32))), (0, .ref (g.2.2 0)), (1, .int x1), (2, .ref (g.2.2 (4 + k2)))]) C.1 C.2.1 dX11_couldBe_64 hl (k := 3) rfl rfl (by decide) rfl (fun ls hl => ?_)
          refine lv_goto (tgt := 2) C.1 C.2.1 dX11_couldBe_67 (by decide) ?_
          exact ih (x3 + (1 : Int32)) H locs ls (lv_sub hl [1, 2, 3, 0] rfl) hP hS hD
        · have hD := b_f c7 hD
          refine lv_iconst (v := (0 : Int32)) C.1 C.2.1 dX11_couldBe_62 (by decide) ?_
          cases hD
          exact rz_X C hr (Or.inl rfl) hP hS dX11_couldBe_63
set_option maxHeartbeats 4000000 in
set_option maxRecDepth 100000 in
theorem c_X11_couldBe (l : Launch) (g : Gx) (sz : Nat) (N : Nat) (σ : St) (x1 : Int32) (k2 : Nat) {r : Int32} (hD : D_X11_couldBe N σ x1 k2 = some r) : Met l yX11_couldBe (Cond.code yX11_couldBe cX11_couldBe 4 (some .boolean) :: tb) rm_X11_couldBe (PcX g [.ref (g.2.2 0), .int x1, .ref (g.2.2 (4 + k2))] σ sz) (QiX g (AX g sz) r σ) 0 0 (AX g sz) := by
  refine Met.ofW (cc := cX11_couldBe) (maxL := 4) (ret := some .boolean) (by decide) rfl ?_
  intro p e s m args below meth c s₁ B hml hv
  have hv0 := hv
  obtain ⟨rfl, hsz, hP, -⟩ := hv
  subst hsz
  have C : CX g (AX g s.heap.size) p s m _ meth c cX11_couldBe 4 RX11 := CX.of B hml (fun w h => List.mem_cons_of_mem _ h) rfl hv0
  have hr := B.returns
  have hS : va_S (AX g s.heap.size) s.heap s.heap [] := va_S.rf
  have hl := lv_entry ([.ref (g.2.2 0), .int x1, .ref (g.2.2 (4 + k2))]) (n := 4) (Nat.le_of_ble_eq_true rfl)
  rw [lg_entry_eq]
  generalize (lg_sl ([.ref (g.2.2 0), .int x1, .ref (g.2.2 (4 + k2))]) ++ List.replicate (4 - (lg_sl ([.ref (g.2.2 0), .int x1, .ref (g.2.2 (4 + k2))])).length) Slot.unset).toArray = ls at hl ⊢
  have hl : lv_has ls 4 [(0, .ref (g.2.2 0)), (1, .int x1), (2, .ref (g.2.2 (4 + k2)))] := hl
  obtain ⟨H, hH⟩ : ∃ H, H = s.heap := ⟨_, rfl⟩
  have hP : va_P g.1 vwCl (wX g σ) H := by rw [hH]; exact hP
  have hS : va_S (AX g s.heap.size) s.heap H [] := by rw [hH]; exact hS
  refine wH hH ?_
  obtain ⟨locs, hlo⟩ : ∃ locs : List Loc, locs = [] := ⟨_, rfl⟩
  rw [← hlo] at hS
  refine wL hlo ?_
  unfold D_X11_couldBe at hD
  refine lv_iconst (v := (0 : Int32)) C.1 C.2.1 dX11_couldBe_0 (by decide) ?_
  refine lv_istore_n (lv' := [(3, .int (0 : Int32)), (0, .ref (g.2.2 0)), (1, .int x1), (2, .ref (g.2.2 (4 + k2)))]) C.1 C.2.1 dX11_couldBe_1 rfl hl (by decide) rfl (fun ls hl => ?_)
  exact w_L_X11_couldBe_2 C hr N σ x1 k2 N (0 : Int32) H locs ls (lv_sub hl [1, 2, 3, 0] rfl) hP hS hD
abbrev rm_X11_isGameOn : Room := { frames := 0, cells := 0, slots := 0, locals := 0 }
set_option maxHeartbeats 4000000 in
set_option maxRecDepth 100000 in
theorem c_X11_isGameOn (l : Launch) (g : Gx) (sz : Nat) (σ : St) {r : Int32} (hD : D_X11_isGameOn σ = some r) : Met l yX11_isGameOn (Cond.code yX11_isGameOn cX11_isGameOn 1 (some .boolean) :: tb) rm_X11_isGameOn (PcX g [.ref (g.2.2 0)] σ sz) (QiX g (AX g sz) r σ) 0 0 (AX g sz) := by
  refine Met.ofW (cc := cX11_isGameOn) (maxL := 1) (ret := some .boolean) (by decide) rfl ?_
  intro p e s m args below meth c s₁ B hml hv
  have hv0 := hv
  obtain ⟨rfl, hsz, hP, -⟩ := hv
  subst hsz
  have C : CX g (AX g s.heap.size) p s m _ meth c cX11_isGameOn 1 RX11 := CX.of B hml (fun w h => List.mem_cons_of_mem _ h) rfl hv0
  have hr := B.returns
  have hS : va_S (AX g s.heap.size) s.heap s.heap [] := va_S.rf
  have hl := lv_entry ([.ref (g.2.2 0)]) (n := 1) (Nat.le_of_ble_eq_true rfl)
  rw [lg_entry_eq]
  generalize (lg_sl ([.ref (g.2.2 0)]) ++ List.replicate (1 - (lg_sl ([.ref (g.2.2 0)])).length) Slot.unset).toArray = ls at hl ⊢
  have hl : lv_has ls 1 [(0, .ref (g.2.2 0))] := hl
  obtain ⟨H, hH⟩ : ∃ H, H = s.heap := ⟨_, rfl⟩
  have hP : va_P g.1 vwCl (wX g σ) H := by rw [hH]; exact hP
  have hS : va_S (AX g s.heap.size) s.heap H [] := by rw [hH]; exact hS
  refine wH hH ?_
  obtain ⟨locs, hlo⟩ : ∃ locs : List Loc, locs = [] := ⟨_, rfl⟩
  rw [← hlo] at hS
  refine wL hlo ?_
  unfold D_X11_isGameOn at hD
  refine lv_aload_n C.1 C.2.1 dX11_isGameOn_0 rfl (lv_at hl 0 rfl) ?_
  refine gf_X11_57_0 C hP dX11_isGameOn_1 ?_
  refine gf_X11_133_20 C hP dX11_isGameOn_4 ?_
  refine lv_if_le (tgt := 14) C.1 C.2.1 dX11_isGameOn_7 (by decide) (fun c1 => ?_) (fun c1 => ?_)
  · have hD := b_t c1 hD
    refine lv_iconst (v := (0 : Int32)) C.1 C.2.1 dX11_isGameOn_14 (by decide) ?_
    cases hD
    exact rz_X C hr (Or.inl rfl) hP hS dX11_isGameOn_15
  · have hD := b_f c1 hD
    refine lv_iconst (v := (1 : Int32)) C.1 C.2.1 dX11_isGameOn_10 (by decide) ?_
    refine lv_goto (tgt := 15) C.1 C.2.1 dX11_isGameOn_11 (by decide) ?_
    cases hD
    exact rz_X C hr (Or.inr rfl) hP hS dX11_isGameOn_15
abbrev rm_X11_count : Room := { frames := 1, cells := 0, slots := 0, locals := 20 }
set_option maxHeartbeats 4000000 in
set_option maxRecDepth 100000 in
theorem c_X11_count (l : Launch) (g : Gx) (sz : Nat) (σ : St) (x1 : Int32) {r : Int32} (hD : D_X11_count σ x1 = some r) : Met l yX11_count (Cond.code yX11_count cX11_count 2 (some .int) :: tb) rm_X11_count (PcX g [.ref (g.2.2 0), .int x1] σ sz) (QiX g (AX g sz) r σ) 0 0 (AX g sz) := by
  refine Met.ofW (cc := cX11_count) (maxL := 2) (ret := some .int) (by decide) rfl ?_
  intro p e s m args below meth c s₁ B hml hv
  have hv0 := hv
  obtain ⟨rfl, hsz, hP, -⟩ := hv
  subst hsz
  have C : CX g (AX g s.heap.size) p s m _ meth c cX11_count 2 RX11 := CX.of B hml (fun w h => List.mem_cons_of_mem _ h) rfl hv0
  have hr := B.returns
  have hS : va_S (AX g s.heap.size) s.heap s.heap [] := va_S.rf
  have hl := lv_entry ([.ref (g.2.2 0), .int x1]) (n := 2) (Nat.le_of_ble_eq_true rfl)
  rw [lg_entry_eq]
  generalize (lg_sl ([.ref (g.2.2 0), .int x1]) ++ List.replicate (2 - (lg_sl ([.ref (g.2.2 0), .int x1])).length) Slot.unset).toArray = ls at hl ⊢
  have hl : lv_has ls 2 [(0, .ref (g.2.2 0)), (1, .int x1)] := hl
  obtain ⟨H, hH⟩ : ∃ H, H = s.heap := ⟨_, rfl⟩
  have hP : va_P g.1 vwCl (wX g σ) H := by rw [hH]; exact hP
  have hS : va_S (AX g s.heap.size) s.heap H [] := by rw [hH]; exact hS
  refine wH hH ?_
  obtain ⟨locs, hlo⟩ : ∃ locs : List Loc, locs = [] := ⟨_, rfl⟩
  rw [← hlo] at hS
  refine wL hlo ?_
  unfold D_X11_count at hD
  refine lv_iload_n C.1 C.2.1 dX11_count_0 rfl (lv_at hl 1 rfl) ?_
  by_cases c1 : x1 = (0 : Int32)
  · have hD := b_t c1 hD
    refine lv_tableIn (off := 59) (tgt := 60) C.1 C.2.1 dX11_count_1 (by rw [c1]; decide) (by rw [c1]; decide) (by rw [c1]; rfl) (by decide) ?_
    refine lv_aload_n C.1 C.2.1 dX11_count_60 rfl (lv_at hl 0 rfl) ?_
    refine gf_X11_57_0 C hP dX11_count_61 ?_
    refine gf_X11_168_20 C hP dX11_count_64 ?_
    cases hD
    exact ri_X C hr hP hS dX11_count_67
  · have hD := b_f c1 hD
    by_cases c2 : x1 = (1 : Int32)
    · have hD := b_t c2 hD
      refine lv_tableIn (off := 67) (tgt := 68) C.1 C.2.1 dX11_count_1 (by rw [c2]; decide) (by rw [c2]; decide) (by rw [c2]; rfl) (by decide) ?_
      refine lv_aload_n C.1 C.2.1 dX11_count_68 rfl (lv_at hl 0 rfl) ?_
      refine gf_X11_57_0 C hP dX11_count_69 ?_
      refine gf_X11_263_20 C hP dX11_count_72 ?_
      cases hD
      exact ri_X C hr hP hS dX11_count_75
    · have hD := b_f c2 hD
      by_cases c3 : x1 = (2 : Int32)
      · have hD := b_t c3 hD
        refine lv_tableIn (off := 75) (tgt := 76) C.1 C.2.1 dX11_count_1 (by rw [c3]; decide) (by rw [c3]; decide) (by rw [c3]; rfl) (by decide) ?_
        refine lv_aload_n C.1 C.2.1 dX11_count_76 rfl (lv_at hl 0 rfl) ?_
        refine gf_X11_57_0 C hP dX11_count_77 ?_
        refine gf_X11_133_20 C hP dX11_count_80 ?_
        cases hD
        exact ri_X C hr hP hS dX11_count_83
      · have hD := b_f c3 hD
        by_cases c4 : x1 = (3 : Int32)
        · have hD := b_t c4 hD
          refine lv_tableIn (off := 83) (tgt := 84) C.1 C.2.1 dX11_count_1 (by rw [c4]; decide) (by rw [c4]; decide) (by rw [c4]; rfl) (by decide) ?_
          refine lv_aload_n C.1 C.2.1 dX11_count_84 rfl (lv_at hl 0 rfl) ?_
          refine gf_X11_110_0 C hP dX11_count_85 ?_
          cases hD
          exact ri_X C hr hP hS dX11_count_88
        · have hD := b_f c4 hD
          by_cases c5 : x1 = (4 : Int32)
          · have hD := b_t c5 hD
            refine lv_tableIn (off := 88) (tgt := 89) C.1 C.2.1 dX11_count_1 (by rw [c5]; decide) (by rw [c5]; decide) (by rw [c5]; rfl) (by decide) ?_
            refine lv_aload_n C.1 C.2.1 dX11_count_89 rfl (lv_at hl 0 rfl) ?_
            refine gf_X11_42_0 C hP dX11_count_90 ?_
            refine gf_X11_125_10 C hP dX11_count_93 ?_
            cases hD
            exact ri_X C hr hP hS dX11_count_96
          · have hD := b_f c5 hD
            by_cases c6 : x1 = (5 : Int32)
            · have hD := b_t c6 hD
              refine lv_tableIn (off := 96) (tgt := 97) C.1 C.2.1 dX11_count_1 (by rw [c6]; decide) (by rw [c6]; decide) (by rw [c6]; rfl) (by decide) ?_
              refine lv_aload_n C.1 C.2.1 dX11_count_97 rfl (lv_at hl 0 rfl) ?_
              obtain ⟨r7, hd7, hD⟩ := bp_some hD
              refine kVi_X (As := []) (rest := []) (ci := 11) (q0 := 0) C (c_X11_isGameOn l g H.size σ hd7) kw_X11_193 ⟨rfl, rfl⟩ ⟨Nat.le_of_ble_eq_true rfl, Nat.le_of_ble_eq_true rfl⟩ kv_X11_isGameOn rfl rfl rfl hl.1 (Nat.le_of_ble_eq_true rfl) ⟨Nat.zero_le _, Nat.zero_le _⟩ dX11_count_98 hP hS rfl (fun H locs hP hS => ?_)
              refine lv_if_eq (tgt := 114) C.1 C.2.1 dX11_count_101 (by decide) (fun c8 => ?_) (fun c8 => ?_)
              · have hD := b_t c8 hD
                refine lv_iconst (v := (-1 : Int32)) C.1 C.2.1 dX11_count_114 (by decide) ?_
                cases hD
                exact ri_X C hr hP hS dX11_count_115
              · have hD := b_f c8 hD
                refine lv_aload_n C.1 C.2.1 dX11_count_104 rfl (lv_at hl 0 rfl) ?_
                refine gf_X11_42_0 C hP dX11_count_105 ?_
                refine gf_X11_122_10 C hP dX11_count_108 ?_
                refine lv_goto (tgt := 115) C.1 C.2.1 dX11_count_111 (by decide) ?_
                cases hD
                exact ri_X C hr hP hS dX11_count_115
            · have hD := b_f c6 hD
              by_cases c9 : x1 = (6 : Int32)
              · have hD := b_t c9 hD
                refine lv_tableIn (off := 115) (tgt := 116) C.1 C.2.1 dX11_count_1 (by rw [c9]; decide) (by rw [c9]; decide) (by rw [c9]; rfl) (by decide) ?_
                refine lv_aload_n C.1 C.2.1 dX11_count_116 rfl (lv_at hl 0 rfl) ?_
                refine gf_X11_12_0 C hP dX11_count_117 ?_
                refine gf_X11_81_1 C hP dX11_count_120 ?_
                cases hD
                exact ri_X C hr hP hS dX11_count_123
              · have hD := b_f c9 hD
                by_cases c10 : x1 = (7 : Int32)
                · have hD := b_t c10 hD
                  refine lv_tableIn (off := 123) (tgt := 124) C.1 C.2.1 dX11_count_1 (by rw [c10]; decide) (by rw [c10]; decide) (by rw [c10]; rfl) (by decide) ?_
                  refine lv_aload_n C.1 C.2.1 dX11_count_124 rfl (lv_at hl 0 rfl) ?_
                  refine gf_X11_130_0 C hP dX11_count_125 ?_
                  cases hD
                  exact ri_X C hr hP hS dX11_count_128
                · have hD := b_f c10 hD
                  by_cases c11 : x1 = (8 : Int32)
                  · have hD := b_t c11 hD
                    refine lv_tableIn (off := 128) (tgt := 129) C.1 C.2.1 dX11_count_1 (by rw [c11]; decide) (by rw [c11]; decide) (by rw [c11]; rfl) (by decide) ?_
                    refine lv_aload_n C.1 C.2.1 dX11_count_129 rfl (lv_at hl 0 rfl) ?_
                    refine gf_X11_199_0 C hP dX11_count_130 ?_
                    cases hD
                    exact ri_X C hr hP hS dX11_count_133
                  · have hD := b_f c11 hD
                    by_cases c12 : x1 = (9 : Int32)
                    · have hD := b_t c12 hD
                      refine lv_tableIn (off := 133) (tgt := 134) C.1 C.2.1 dX11_count_1 (by rw [c12]; decide) (by rw [c12]; decide) (by rw [c12]; rfl) (by decide) ?_
                      refine lv_aload_n C.1 C.2.1 dX11_count_134 rfl (lv_at hl 0 rfl) ?_
                      refine gf_X11_216_0 C hP dX11_count_135 ?_
                      cases hD
                      exact ri_X C hr hP hS dX11_count_138
                    · have hD := b_f c12 hD
                      by_cases c13 : x1 = (10 : Int32)
                      · have hD := b_t c13 hD
                        refine lv_tableIn (off := 138) (tgt := 139) C.1 C.2.1 dX11_count_1 (by rw [c13]; decide) (by rw [c13]; decide) (by rw [c13]; rfl) (by decide) ?_
                        refine lv_aload_n C.1 C.2.1 dX11_count_139 rfl (lv_at hl 0 rfl) ?_
                        refine gf_X11_231_0 C hP dX11_count_140 ?_
                        cases hD
                        exact ri_X C hr hP hS dX11_count_143
                      · have hD := b_f c13 hD
                        refine lv_tableOut (tgt := 144) C.1 C.2.1 dX11_count_1 (by have q1 := lv_neT c1 (a := 0) (by decide); have q2 := lv_neT c2 (a := 1) (by decide); have q3 := lv_neT c3 (a := 2) (by decide); have q4 := lv_neT c4 (a := 3) (by decide); have q5 := lv_neT c5 (a := 4) (by decide); have q6 := lv_neT c6 (a := 5) (by decide); have q9 := lv_neT c9 (a := 6) (by decide); have q10 := lv_neT c10 (a := 7) (by decide); have q11 := lv_neT c11 (a := 8) (by decide); have q12 := lv_neT c12 (a := 9) (by decide); have q13 := lv_neT c13 (a := 10) (by decide); omega) (by decide) ?_
                        refine lv_bipush (v := (-102 : Int32)) C.1 C.2.1 dX11_count_144 (by decide) ?_
                        cases hD
                        exact ri_X C hr hP hS dX11_count_146
abbrev rm_X6_areTwins : Room := { frames := 3, cells := 0, slots := 0, locals := 65 }
set_option maxHeartbeats 4000000 in
set_option maxRecDepth 100000 in
theorem w_J_X6_areTwins_39 (C : CX g A p s m args meth c cX6_areTwins 6 RX6) (hr : meth.sig.returnType = some .boolean) (N : Nat) (σ : St) {r : Int32} (kc3 : Int32 → Option Int32) (k1 : Nat) (x2 : Int32) (x3 : Int32) (x4 : Int32) (t0 : Int32) (hk3 : ∀ (x4 : Int32) (H : Heap) (locs : List Loc) (ls : Array Slot), lv_has ls 6 [(0, .ref (g.2.2 20)), (1, .ref (g.2.2 (4 + k1))), (2, .int x2), (3, .int x3), (4, .int x4)] → va_P g.1 vwCl (wX g σ) H → va_S A s.heap H locs → kc3 x4 = some r → W p l e rm_X6_areTwins s m args below meth c H locs 0 0 (MQ below (QiX g A r σ) args s 0 0 A) (F0 m 3 ls [])) : ∀  (H : Heap) (locs : List Loc) (ls : Array Slot), lv_has ls 6 [(0, .ref (g.2.2 20)), (1, .ref (g.2.2 (4 + k1))), (2, .int x2), (3, .int x3), (4, .int x4)] → va_P g.1 vwCl (wX g σ) H → va_S A s.heap H locs → J_X6_areTwins_39 N σ kc3 k1 x2 x3 x4 t0 = some r → W p l e rm_X6_areTwins s m args below meth c H locs 0 0 (MQ below (QiX g A r σ) args s 0 0 A) (F0 m 39 ls [.int t0]) := by
  intro  H locs ls hl hP hS hD
  unfold J_X6_areTwins_39 at hD
  refine lv_istore (lv' := [(5, .int t0), (0, .ref (g.2.2 20)), (1, .ref (g.2.2 (4 + k1))), (2, .int x2), (3, .int x3), (4, .int x4)]) C.1 C.2.1 dX6_areTwins_39 hl (by decide) rfl (fun ls hl => ?_)
  refine lv_aload_n C.1 C.2.1 dX6_areTwins_41 rfl (lv_at hl 2 rfl) ?_
  refine lv_aload_n C.1 C.2.1 dX6_areTwins_42 rfl (lv_at hl 1 rfl) ?_
  refine lv_iload C.1 C.2.1 dX6_areTwins_43 (lv_at hl 0 rfl) ?_
  refine lv_iload_n C.1 C.2.1 dX6_areTwins_45 rfl (lv_at hl 3 rfl) ?_
  obtain ⟨r3, hd3, hD⟩ := bp_some hD
  refine kW_X6_52 C hd3 ⟨Nat.le_of_ble_eq_true rfl, Nat.le_of_ble_eq_true rfl⟩ hl.1 (Nat.le_of_ble_eq_true rfl) ⟨Nat.zero_le _, Nat.zero_le _⟩ dX6_areTwins_46 hP hS (fun H locs hP hS => ?_)
  refine lv_aload_n C.1 C.2.1 dX6_areTwins_49 rfl (lv_at hl 2 rfl) ?_
  refine lv_aload_n C.1 C.2.1 dX6_areTwins_50 rfl (lv_at hl 1 rfl) ?_
  refine lv_iload C.1 C.2.1 dX6_areTwins_51 (lv_at hl 0 rfl) ?_
  refine lv_iload_n C.1 C.2.1 dX6_areTwins_53 rfl (lv_at hl 4 rfl) ?_
  obtain ⟨r4, hd4, hD⟩ := bp_some hD
  refine kW_X6_52 C hd4 ⟨Nat.le_of_ble_eq_true rfl, Nat.le_of_ble_eq_true rfl⟩ hl.1 (Nat.le_of_ble_eq_true rfl) ⟨Nat.zero_le _, Nat.zero_le _⟩ dX6_areTwins_54 hP hS (fun H locs hP hS => ?_)
  refine lv_icmp_eq (tgt := 62) C.1 C.2.1 dX6_areTwins_57 (by decide) (fun c5 => ?_) (fun c5 => ?_)
  · have hD := b_t c5 hD
    refine lv_iinc (v := x4 + (1 : Int32)) (lv' := [(4, .int (x4 + (1 : Int32))), (5, .int t0), (0, .ref (g.2.2 20)), (1, .ref (g.2.2 (4 + k1))), (2, .int x2), (3, .int x3)]) C.1 C.2.1 dX6_areTwins_62 hl (k := 5) rfl rfl (by decide) rfl (fun ls hl => ?_)
    refine lv_goto (tgt := 3) C.1 C.2.1 dX6_areTwins_65 (by decide) ?_
    exact hk3 (x4 + (1 : Int32)) H locs ls (lv_sub hl [2, 3, 4, 5, 0] rfl) hP hS hD
  · have hD := b_f c5 hD
    refine lv_iconst (v := (0 : Int32)) C.1 C.2.1 dX6_areTwins_60 (by decide) ?_
    cases hD
    exact rz_X C hr (Or.inl rfl) hP hS dX6_areTwins_61
set_option maxHeartbeats 4000000 in
set_option maxRecDepth 100000 in
theorem w_L_X6_areTwins_3 (C : CX g A p s m args meth c cX6_areTwins 6 RX6) (hr : meth.sig.returnType = some .boolean) (N : Nat) (σ : St) {r : Int32} (k1 : Nat) (x2 : Int32) (x3 : Int32) : ∀ (n : Nat) (x4 : Int32) (H : Heap) (locs : List Loc) (ls : Array Slot), lv_has ls 6 [(0, .ref (g.2.2 20)), (1, .ref (g.2.2 (4 + k1))), (2, .int x2), (3, .int x3), (4, .int x4)] → va_P g.1 vwCl (wX g σ) H → va_S A s.heap H locs → L_X6_areTwins_3 N σ k1 x2 x3 n x4 = some r → W p l e rm_X6_areTwins s m args below meth c H locs 0 0 (MQ below (QiX g A r σ) args s 0 0 A) (F0 m 3 ls []) := by
  intro n
  induction n with
  | zero =>
    intro x4 H locs ls hl hP hS hD
    rw [L_X6_areTwins_3] at hD
    cases hD
  | succ n ih =>
    intro x4 H locs ls hl hP hS hD
    rw [L_X6_areTwins_3] at hD
    refine lv_iload C.1 C.2.1 dX6_areTwins_3 (lv_at hl 4 rfl) ?_
    refine lv_aload_n C.1 C.2.1 dX6_areTwins_5 rfl (lv_at hl 0 rfl) ?_
    refine gf_X6_28_20 C hP dX6_areTwins_6 ?_
    refine lv_icmp_ge (tgt := 68) C.1 C.2.1 dX6_areTwins_9 (by decide) (fun c1 => ?_) (fun c1 => ?_)
    · have hD := b_t c1 hD
      refine lv_iconst (v := (1 : Int32)) C.1 C.2.1 dX6_areTwins_68 (by decide) ?_
      cases hD
      exact rz_X C hr (Or.inr rfl) hP hS dX6_areTwins_69
    · have hD := b_f c1 hD
      refine lv_iload_n C.1 C.2.1 dX6_areTwins_12 rfl (lv_at hl 2 rfl) ?_
      refine lv_iload C.1 C.2.1 dX6_areTwins_13 (lv_at hl 4 rfl) ?_
      refine lv_iadd C.1 C.2.1 dX6_areTwins_15 ?_
      refine lv_aload_n C.1 C.2.1 dX6_areTwins_16 rfl (lv_at hl 0 rfl) ?_
      refine gf_X6_28_20 C hP dX6_areTwins_17 ?_
      refine lv_icmp_ge (tgt := 30) C.1 C.2.1 dX6_areTwins_20 (by decide) (fun c2 => ?_) (fun c2 => ?_)
      · have hD := b_t c2 hD
        refine lv_iload_n C.1 C.2.1 dX6_areTwins_30 rfl (lv_at hl 2 rfl) ?_
        refine lv_iload C.1 C.2.1 dX6_areTwins_31 (lv_at hl 4 rfl) ?_
        refine lv_iadd C.1 C.2.1 dX6_areTwins_33 ?_
        refine lv_aload_n C.1 C.2.1 dX6_areTwins_34 rfl (lv_at hl 0 rfl) ?_
        refine gf_X6_28_20 C hP dX6_areTwins_35 ?_
        refine lv_isub C.1 C.2.1 dX6_areTwins_38 ?_
        exact w_J_X6_areTwins_39 C hr N σ (L_X6_areTwins_3 N σ k1 x2 x3 n) k1 x2 x3 x4 ((x2 + x4) - (σ 20 2)) ih H locs ls (lv_sub hl [0, 1, 2, 3, 4] rfl) hP hS hD
      · have hD := b_f c2 hD
        refine lv_iload_n C.1 C.2.1 dX6_areTwins_23 rfl (lv_at hl 2 rfl) ?_
        refine lv_iload C.1 C.2.1 dX6_areTwins_24 (lv_at hl 4 rfl) ?_
        refine lv_iadd C.1 C.2.1 dX6_areTwins_26 ?_
        refine lv_goto (tgt := 39) C.1 C.2.1 dX6_areTwins_27 (by decide) ?_
        exact w_J_X6_areTwins_39 C hr N σ (L_X6_areTwins_3 N σ k1 x2 x3 n) k1 x2 x3 x4 (x2 + x4) ih H locs ls (lv_sub hl [0, 1, 2, 3, 4] rfl) hP hS hD
set_option maxHeartbeats 4000000 in
set_option maxRecDepth 100000 in
theorem c_X6_areTwins (l : Launch) (g : Gx) (sz : Nat) (N : Nat) (σ : St) (k1 : Nat) (x2 : Int32) (x3 : Int32) {r : Int32} (hD : D_X6_areTwins N σ k1 x2 x3 = some r) : Met l yX6_areTwins (Cond.code yX6_areTwins cX6_areTwins 6 (some .boolean) :: tb) rm_X6_areTwins (PcX g [.ref (g.2.2 20), .ref (g.2.2 (4 + k1)), .int x2, .int x3] σ sz) (QiX g (AX g sz) r σ) 0 0 (AX g sz) := by
  refine Met.ofW (cc := cX6_areTwins) (maxL := 6) (ret := some .boolean) (by decide) rfl ?_
  intro p e s m args below meth c s₁ B hml hv
  have hv0 := hv
  obtain ⟨rfl, hsz, hP, -⟩ := hv
  subst hsz
  have C : CX g (AX g s.heap.size) p s m _ meth c cX6_areTwins 6 RX6 := CX.of B hml (fun w h => List.mem_cons_of_mem _ h) rfl hv0
  have hr := B.returns
  have hS : va_S (AX g s.heap.size) s.heap s.heap [] := va_S.rf
  have hl := lv_entry ([.ref (g.2.2 20), .ref (g.2.2 (4 + k1)), .int x2, .int x3]) (n := 6) (Nat.le_of_ble_eq_true rfl)
  rw [lg_entry_eq]
  generalize (lg_sl ([.ref (g.2.2 20), .ref (g.2.2 (4 + k1)), .int x2, .int x3]) ++ List.replicate (6 - (lg_sl ([.ref (g.2.2 20), .ref (g.2.2 (4 + k1)), .int x2, .int x3])).length) Slot.unset).toArray = ls at hl ⊢
  have hl : lv_has ls 6 [(0, .ref (g.2.2 20)), (1, .ref (g.2.2 (4 + k1))), (2, .int x2), (3, .int x3)] := hl
  obtain ⟨H, hH⟩ : ∃ H, H = s.heap := ⟨_, rfl⟩
  have hP : va_P g.1 vwCl (wX g σ) H := by rw [hH]; exact hP
  have hS : va_S (AX g s.heap.size) s.heap H [] := by rw [hH]; exact hS
  refine wH hH ?_
  obtain ⟨locs, hlo⟩ : ∃ locs : List Loc, locs = [] := ⟨_, rfl⟩
  rw [← hlo] at hS
  refine wL hlo ?_
  unfold D_X6_areTwins at hD
  refine lv_iconst (v := (0 : Int32)) C.1 C.2.1 dX6_areTwins_0 (by decide) ?_
  refine lv_istore (lv' := [(4, .int (0 : Int32)), (0, .ref (g.2.2 20)), (1, .ref (g.2.2 (4 + k1))), (2, .int x2), (3, .int x3)]) C.1 C.2.1 dX6_areTwins_1 hl (by decide) rfl (fun ls hl => ?_)
  exact w_L_X6_areTwins_3 C hr N σ k1 x2 x3 N (0 : Int32) H locs ls (lv_sub hl [1, 2, 3, 4, 0] rfl) hP hS hD
abbrev rm_X6_twins : Room := { frames := 4, cells := 0, slots := 0, locals := 90 }
set_option maxHeartbeats 4000000 in
set_option maxRecDepth 100000 in
theorem w_L_X6_twins_14 (C : CX g A p s m args meth c cX6_twins 4 RX6) (hr : meth.sig.returnType = some .int) (N : Nat) (σ : St) {r : Int32} (kc2 : Int32 → Option Int32) (k1 : Nat) (x2 : Int32) (hk2 : ∀ (x2 : Int32) (H : Heap) (locs : List Loc) (ls : Array Slot), lv_has ls 4 [(0, .ref (g.2.2 20)), (1, .ref (g.2.2 (4 + k1))), (2, .int x2)] → va_P g.1 vwCl (wX g σ) H → va_S A s.heap H locs → kc2 x2 = some r → W p l e rm_X6_twins s m args below meth c H locs 0 0 (MQ below (QiX g A r σ) args s 0 0 A) (F0 m 2 ls [])) : ∀ (n : Nat) (x3 : Int32) (H : Heap) (locs : List Loc) (ls : Array Slot), lv_has ls 4 [(0, .ref (g.2.2 20)), (1, .ref (g.2.2 (4 + k1))), (2, .int x2), (3, .int x3)] → va_P g.1 vwCl (wX g σ) H → va_S A s.heap H locs → L_X6_twins_14 N σ kc2 k1 x2 n x3 = some r → W p l e rm_X6_twins s m args below meth c H locs 0 0 (MQ below (QiX g A r σ) args s 0 0 A) (F0 m 14 ls []) := by
  intro n
  induction n with
  | zero =>
    intro x3 H locs ls hl hP hS hD
    rw [L_X6_twins_14] at hD
    cases hD
  | succ n ih =>
    intro x3 H locs ls hl hP hS hD
    rw [L_X6_twins_14] at hD
    refine lv_iload_n C.1 C.2.1 dX6_twins_14 rfl (lv_at hl 3 rfl) ?_
    refine lv_aload_n C.1 C.2.1 dX6_twins_15 rfl (lv_at hl 0 rfl) ?_
    refine gf_X6_28_20 C hP dX6_twins_16 ?_
    refine lv_icmp_ge (tgt := 46) C.1 C.2.1 dX6_twins_19 (by decide) (fun c2 => ?_) (fun c2 => ?_)
    · have hD := b_t c2 hD
      refine lv_iinc (v := x2 + (1 : Int32)) (lv' := [(2, .int (x2 + (1 : Int32))), (0, .ref (g.2.2 20)), (1, .ref (g.2.2 (4 + k1))), (3, .int x3)]) C.1 C.2.1 dX6_twins_46 hl (k := 2) rfl rfl (by decide) rfl (fun ls hl => ?_)
      refine lv_goto (tgt := 2) C.1 C.2.1 dX6_twins_49 (by decide) ?_
      exact hk2 (x2 + (1 : Int32)) H locs ls (lv_sub hl [1, 2, 0] rfl) hP hS hD
    · have hD := b_f c2 hD
      refine lv_aload_n C.1 C.2.1 dX6_twins_22 rfl (lv_at hl 0 rfl) ?_
      refine lv_aload_n C.1 C.2.1 dX6_twins_23 rfl (lv_at hl 1 rfl) ?_
      refine lv_iload_n C.1 C.2.1 dX6_twins_24 rfl (lv_at hl 2 rfl) ?_
      refine lv_iload_n C.1 C.2.1 dX6_twins_25 rfl (lv_at hl 3 rfl) ?_
      obtain ⟨r3, hd3, hD⟩ := bp_some hD
      refine kVi_X (As := [.ref (g.2.2 (4 + k1)), .int x2, .int x3]) (rest := []) (ci := 6) (q0 := 20) C (c_X6_areTwins l g H.size N σ k1 x2 x3 hd3) kw_X6_48 ⟨rfl, rfl⟩ ⟨Nat.le_of_ble_eq_true rfl, Nat.le_of_ble_eq_true rfl⟩ kv_X6_areTwins rfl rfl rfl hl.1 (Nat.le_of_ble_eq_true rfl) ⟨Nat.zero_le _, Nat.zero_le _⟩ dX6_twins_26 hP hS rfl (fun H locs hP hS => ?_)
      refine lv_if_eq (tgt := 40) C.1 C.2.1 dX6_twins_29 (by decide) (fun c4 => ?_) (fun c4 => ?_)
      · have hD := b_t c4 hD
        refine lv_iinc (v := x3 + (1 : Int32)) (lv' := [(3, .int (x3 + (1 : Int32))), (0, .ref (g.2.2 20)), (1, .ref (g.2.2 (4 + k1))), (2, .int x2)]) C.1 C.2.1 dX6_twins_40 hl (k := 3) rfl rfl (by decide) rfl (fun ls hl => ?_)
        refine lv_goto (tgt := 14) C.1 C.2.1 dX6_twins_43 (by decide) ?_
        exact ih (x3 + (1 : Int32)) H locs ls (lv_sub hl [1, 2, 3, 0] rfl) hP hS hD
      · have hD := b_f c4 hD
        refine lv_iload_n C.1 C.2.1 dX6_twins_32 rfl (lv_at hl 2 rfl) ?_
        refine lv_sipush (v := (1000 : Int32)) C.1 C.2.1 dX6_twins_33 (by decide) ?_
        refine lv_imul C.1 C.2.1 dX6_twins_36 ?_
        refine lv_iload_n C.1 C.2.1 dX6_twins_37 rfl (lv_at hl 3 rfl) ?_
        refine lv_iadd C.1 C.2.1 dX6_twins_38 ?_
        cases hD
        exact ri_X C hr hP hS dX6_twins_39
set_option maxHeartbeats 4000000 in
set_option maxRecDepth 100000 in
theorem w_L_X6_twins_2 (C : CX g A p s m args meth c cX6_twins 4 RX6) (hr : meth.sig.returnType = some .int) (N : Nat) (σ : St) {r : Int32} (k1 : Nat) : ∀ (n : Nat) (x2 : Int32) (H : Heap) (locs : List Loc) (ls : Array Slot), lv_has ls 4 [(0, .ref (g.2.2 20)), (1, .ref (g.2.2 (4 + k1))), (2, .int x2)] → va_P g.1 vwCl (wX g σ) H → va_S A s.heap H locs → L_X6_twins_2 N σ k1 n x2 = some r → W p l e rm_X6_twins s m args below meth c H locs 0 0 (MQ below (QiX g A r σ) args s 0 0 A) (F0 m 2 ls []) := by
  intro n
  induction n with
  | zero =>
    intro x2 H locs ls hl hP hS hD
    rw [L_X6_twins_2] at hD
    cases hD
  | succ n ih =>
    intro x2 H locs ls hl hP hS hD
    rw [L_X6_twins_2] at hD
    refine lv_iload_n C.1 C.2.1 dX6_twins_2 rfl (lv_at hl 2 rfl) ?_
    refine lv_aload_n C.1 C.2.1 dX6_twins_3 rfl (lv_at hl 0 rfl) ?_
    refine gf_X6_28_20 C hP dX6_twins_4 ?_
    refine lv_icmp_ge (tgt := 52) C.1 C.2.1 dX6_twins_7 (by decide) (fun c1 => ?_) (fun c1 => ?_)
    · have hD := b_t c1 hD
      refine lv_iconst (v := (-1 : Int32)) C.1 C.2.1 dX6_twins_52 (by decide) ?_
      cases hD
      exact ri_X C hr hP hS dX6_twins_53
    · have hD := b_f c1 hD
      refine lv_iload_n C.1 C.2.1 dX6_twins_10 rfl (lv_at hl 2 rfl) ?_
      refine lv_iconst (v := (1 : Int32)) C.1 C.2.1 dX6_twins_11 (by decide) ?_
      refine lv_iadd C.1 C.2.1 dX6_twins_12 ?_
      refine lv_istore_n (lv' := [(3, .int (x2 + (1 : Int32))), (0, .ref (g.2.2 20)), (1, .ref (g.2.2 (4 + k1))), (2, .int x2)]) C.1 C.2.1 dX6_twins_13 rfl hl (by decide) rfl (fun ls hl => ?_)
      exact w_L_X6_twins_14 C hr N σ (L_X6_twins_2 N σ k1 n) k1 x2 ih N (x2 + (1 : Int32)) H locs ls (lv_sub hl [1, 2, 3, 0] rfl) hP hS hD
set_option maxHeartbeats 4000000 in
set_option maxRecDepth 100000 in
theorem c_X6_twins (l : Launch) (g : Gx) (sz : Nat) (N : Nat) (σ : St) (k1 : Nat) {r : Int32} (hD : D_X6_twins N σ k1 = some r) : Met l yX6_twins (Cond.code yX6_twins cX6_twins 4 (some .int) :: tb) rm_X6_twins (PcX g [.ref (g.2.2 20), .ref (g.2.2 (4 + k1))] σ sz) (QiX g (AX g sz) r σ) 0 0 (AX g sz) := by
  refine Met.ofW (cc := cX6_twins) (maxL := 4) (ret := some .int) (by decide) rfl ?_
  intro p e s m args below meth c s₁ B hml hv
  have hv0 := hv
  obtain ⟨rfl, hsz, hP, -⟩ := hv
  subst hsz
  have C : CX g (AX g s.heap.size) p s m _ meth c cX6_twins 4 RX6 := CX.of B hml (fun w h => List.mem_cons_of_mem _ h) rfl hv0
  have hr := B.returns
  have hS : va_S (AX g s.heap.size) s.heap s.heap [] := va_S.rf
  have hl := lv_entry ([.ref (g.2.2 20), .ref (g.2.2 (4 + k1))]) (n := 4) (Nat.le_of_ble_eq_true rfl)
  rw [lg_entry_eq]
  generalize (lg_sl ([.ref (g.2.2 20), .ref (g.2.2 (4 + k1))]) ++ List.replicate (4 - (lg_sl ([.ref (g.2.2 20), .ref (g.2.2 (4 + k1))])).length) Slot.unset).toArray = ls at hl ⊢
  have hl : lv_has ls 4 [(0, .ref (g.2.2 20)), (1, .ref (g.2.2 (4 + k1)))] := hl
  obtain ⟨H, hH⟩ : ∃ H, H = s.heap := ⟨_, rfl⟩
  have hP : va_P g.1 vwCl (wX g σ) H := by rw [hH]; exact hP
  have hS : va_S (AX g s.heap.size) s.heap H [] := by rw [hH]; exact hS
  refine wH hH ?_
  obtain ⟨locs, hlo⟩ : ∃ locs : List Loc, locs = [] := ⟨_, rfl⟩
  rw [← hlo] at hS
  refine wL hlo ?_
  unfold D_X6_twins at hD
  refine lv_iconst (v := (0 : Int32)) C.1 C.2.1 dX6_twins_0 (by decide) ?_
  refine lv_istore_n (lv' := [(2, .int (0 : Int32)), (0, .ref (g.2.2 20)), (1, .ref (g.2.2 (4 + k1)))]) C.1 C.2.1 dX6_twins_1 rfl hl (by decide) rfl (fun ls hl => ?_)
  exact w_L_X6_twins_2 C hr N σ k1 N (0 : Int32) H locs ls (lv_sub hl [1, 2, 0] rfl) hP hS hD
end WLK
