/-! constructors of the nested classes -/
set_option maxRecDepth 20000 in
theorem ci_X2 (l : Launch) (D : va_G) (cA : Nat → ClassId) (sz h0 : Nat) (k : Nat) : Met l yX2_init (Cond.code yX2_init cX2_init 1 none :: tb) { frames := 1, cells := 0, slots := 0, locals := 12 } (PcI D cA [(h0, .inr (k, []))] [.ref h0] sz) (QI D cA [(h0, .inr (k, []))] (fun a => [(h0, .inr (k, []))]) sz) 0 0 (va_A [(h0, .inr (k, []))] sz) := by
  refine Met.ofW (cc := cX2_init) (maxL := 1) (ret := none) (by decide) rfl ?_
  intro p e s m args below meth c s₁ B hml hv
  have hv0 := hv
  obtain ⟨rfl, hsz, hP, -, hD0, -⟩ := hv
  subst hsz
  have C := CI.of (own := RX2) B hml (fun w h => List.mem_cons_of_mem _ h) rfl hv0
  have hr := B.returns
  have hin : meth.name = "<init>" := (name_of_methodNamed B.named B.method).1
  have hD := hD0.self (sz := s.heap.size)
  have hS : va_S (va_A [(h0, .inr (k, []))] s.heap.size) s.heap s.heap [] := va_S.rf
  generalize hAe : va_A [(h0, .inr (k, []))] s.heap.size = A at C hD hS ⊢
  have hl := lv_entry ([.ref h0]) (n := 1) (Nat.le_of_ble_eq_true rfl)
  rw [lg_entry_eq]
  generalize (lg_sl ([.ref h0]) ++ List.replicate (1 - (lg_sl ([.ref h0])).length) Slot.unset).toArray = ls at hl ⊢
  have hl : lv_has ls 1 [(0, .ref h0)] := hl
  refine lv_aload_n C.1 C.2.1 dX2_init_0 rfl (lv_at hl 0 rfl) ?_
  refine oi_I C (tb_in 108 (by decide +kernel) (by decide +kernel)) hl.1 (Nat.le_of_ble_eq_true rfl) (Nat.le_of_ble_eq_true rfl) dX2_init_1 ?_
  refine W.widen (k := 0) (n := 0) (Nat.le_of_ble_eq_true rfl) (Nat.le_of_ble_eq_true rfl) ?_
  exact rv_I C hAe.symm hr (fun i => ([] : List Nat).getD i 0) hP hD hS dX2_init_4
set_option maxRecDepth 20000 in
theorem ci_X7 (l : Launch) (D : va_G) (cA : Nat → ClassId) (sz h0 : Nat) (k : Nat) : Met l yX7_init (Cond.code yX7_init cX7_init 1 none :: tb) { frames := 2, cells := 0, slots := 0, locals := 32 } (PcI D cA [(h0, .inr (k, []))] [.ref h0] sz) (QI D cA [(h0, .inr (k, []))] (fun a => [(h0, .inr (k, []))]) sz) 0 0 (va_A [(h0, .inr (k, []))] sz) := by
  refine Met.ofW (cc := cX7_init) (maxL := 1) (ret := none) (by decide) rfl ?_
  intro p e s m args below meth c s₁ B hml hv
  have hv0 := hv
  obtain ⟨rfl, hsz, hP, -, hD0, -⟩ := hv
  subst hsz
  have C := CI.of (own := RX7) B hml (fun w h => List.mem_cons_of_mem _ h) rfl hv0
  have hr := B.returns
  have hin : meth.name = "<init>" := (name_of_methodNamed B.named B.method).1
  have hD := hD0.self (sz := s.heap.size)
  have hS : va_S (va_A [(h0, .inr (k, []))] s.heap.size) s.heap s.heap [] := va_S.rf
  generalize hAe : va_A [(h0, .inr (k, []))] s.heap.size = A at C hD hS ⊢
  have hl := lv_entry ([.ref h0]) (n := 1) (Nat.le_of_ble_eq_true rfl)
  rw [lg_entry_eq]
  generalize (lg_sl ([.ref h0]) ++ List.replicate (1 - (lg_sl ([.ref h0])).length) Slot.unset).toArray = ls at hl ⊢
  have hl : lv_has ls 1 [(0, .ref h0)] := hl
  refine lv_aload_n C.1 C.2.1 dX7_init_0 rfl (lv_at hl 0 rfl) ?_
  refine cn_I (n := 0) (As := []) (rest := []) (wr := []) C (ci_X2 l D cA _ h0 k) hP hD hS [0] [] rfl rfl rfl (by decide) (by decide) (by decide) (List.mem_of_getElem? (i := 8) rfl) (List.forall_mem_cons.mpr ⟨tb_in 59 (by decide +kernel) (by decide +kernel), List.forall_mem_cons.mpr ⟨tb_in 106 (by decide +kernel) (by decide +kernel), List.forall_mem_cons.mpr ⟨tb_in 107 (by decide +kernel) (by decide +kernel), fun _ h => absurd h List.not_mem_nil⟩⟩⟩) rfl ⟨rfl, rfl⟩ ⟨Nat.le_of_ble_eq_true rfl, Nat.le_of_ble_eq_true rfl⟩ (by decide +kernel) rfl hl.1 rfl (Nat.le_of_ble_eq_true rfl) ⟨Nat.le_of_ble_eq_true rfl, Nat.le_of_ble_eq_true rfl⟩ dX7_init_1 (fun a1 H locs hP hD hS => ?_)
  have hP : va_P D vwCl [(h0, .inr (k, []))] _ := hP
  have hD : va_D A [(h0, .inr (k, []))] := hD
  refine W.widen (k := 0) (n := 0) (Nat.le_of_ble_eq_true rfl) (Nat.le_of_ble_eq_true rfl) ?_
  exact rv_I C hAe.symm hr (fun i => ([] : List Nat).getD i 0) hP hD hS dX7_init_4
set_option maxRecDepth 20000 in
theorem ci_X8 (l : Launch) (D : va_G) (cA : Nat → ClassId) (sz h0 : Nat) (k : Nat) : Met l yX8_init (Cond.code yX8_init cX8_init 1 none :: tb) { frames := 2, cells := 0, slots := 0, locals := 32 } (PcI D cA [(h0, .inr (k, []))] [.ref h0] sz) (QI D cA [(h0, .inr (k, []))] (fun a => [(h0, .inr (k, []))]) sz) 0 0 (va_A [(h0, .inr (k, []))] sz) := by
  refine Met.ofW (cc := cX8_init) (maxL := 1) (ret := none) (by decide) rfl ?_
  intro p e s m args below meth c s₁ B hml hv
  have hv0 := hv
  obtain ⟨rfl, hsz, hP, -, hD0, -⟩ := hv
  subst hsz
  have C := CI.of (own := RX8) B hml (fun w h => List.mem_cons_of_mem _ h) rfl hv0
  have hr := B.returns
  have hin : meth.name = "<init>" := (name_of_methodNamed B.named B.method).1
  have hD := hD0.self (sz := s.heap.size)
  have hS : va_S (va_A [(h0, .inr (k, []))] s.heap.size) s.heap s.heap [] := va_S.rf
  generalize hAe : va_A [(h0, .inr (k, []))] s.heap.size = A at C hD hS ⊢
  have hl := lv_entry ([.ref h0]) (n := 1) (Nat.le_of_ble_eq_true rfl)
  rw [lg_entry_eq]
  generalize (lg_sl ([.ref h0]) ++ List.replicate (1 - (lg_sl ([.ref h0])).length) Slot.unset).toArray = ls at hl ⊢
  have hl : lv_has ls 1 [(0, .ref h0)] := hl
  refine lv_aload_n C.1 C.2.1 dX8_init_0 rfl (lv_at hl 0 rfl) ?_
  refine cn_I (n := 0) (As := []) (rest := []) (wr := []) C (ci_X2 l D cA _ h0 k) hP hD hS [0] [] rfl rfl rfl (by decide) (by decide) (by decide) (List.mem_of_getElem? (i := 9) rfl) (List.forall_mem_cons.mpr ⟨tb_in 59 (by decide +kernel) (by decide +kernel), List.forall_mem_cons.mpr ⟨tb_in 106 (by decide +kernel) (by decide +kernel), List.forall_mem_cons.mpr ⟨tb_in 107 (by decide +kernel) (by decide +kernel), fun _ h => absurd h List.not_mem_nil⟩⟩⟩) rfl ⟨rfl, rfl⟩ ⟨Nat.le_of_ble_eq_true rfl, Nat.le_of_ble_eq_true rfl⟩ (by decide +kernel) rfl hl.1 rfl (Nat.le_of_ble_eq_true rfl) ⟨Nat.le_of_ble_eq_true rfl, Nat.le_of_ble_eq_true rfl⟩ dX8_init_1 (fun a1 H locs hP hD hS => ?_)
  have hP : va_P D vwCl [(h0, .inr (k, []))] _ := hP
  have hD : va_D A [(h0, .inr (k, []))] := hD
  refine W.widen (k := 0) (n := 0) (Nat.le_of_ble_eq_true rfl) (Nat.le_of_ble_eq_true rfl) ?_
  exact rv_I C hAe.symm hr (fun i => ([] : List Nat).getD i 0) hP hD hS dX8_init_4
set_option maxRecDepth 20000 in
theorem ci_X10 (l : Launch) (D : va_G) (cA : Nat → ClassId) (sz h0 : Nat) (k : Nat) : Met l yX10_init (Cond.code yX10_init cX10_init 1 none :: tb) { frames := 2, cells := 0, slots := 0, locals := 32 } (PcI D cA [(h0, .inr (k, []))] [.ref h0] sz) (QI D cA [(h0, .inr (k, []))] (fun a => [(h0, .inr (k, []))]) sz) 0 0 (va_A [(h0, .inr (k, []))] sz) := by
  refine Met.ofW (cc := cX10_init) (maxL := 1) (ret := none) (by decide) rfl ?_
  intro p e s m args below meth c s₁ B hml hv
  have hv0 := hv
  obtain ⟨rfl, hsz, hP, -, hD0, -⟩ := hv
  subst hsz
  have C := CI.of (own := RX10) B hml (fun w h => List.mem_cons_of_mem _ h) rfl hv0
  have hr := B.returns
  have hin : meth.name = "<init>" := (name_of_methodNamed B.named B.method).1
  have hD := hD0.self (sz := s.heap.size)
  have hS : va_S (va_A [(h0, .inr (k, []))] s.heap.size) s.heap s.heap [] := va_S.rf
  generalize hAe : va_A [(h0, .inr (k, []))] s.heap.size = A at C hD hS ⊢
  have hl := lv_entry ([.ref h0]) (n := 1) (Nat.le_of_ble_eq_true rfl)
  rw [lg_entry_eq]
  generalize (lg_sl ([.ref h0]) ++ List.replicate (1 - (lg_sl ([.ref h0])).length) Slot.unset).toArray = ls at hl ⊢
  have hl : lv_has ls 1 [(0, .ref h0)] := hl
  refine lv_aload_n C.1 C.2.1 dX10_init_0 rfl (lv_at hl 0 rfl) ?_
  refine cn_I (n := 0) (As := []) (rest := []) (wr := []) C (ci_X2 l D cA _ h0 k) hP hD hS [0] [] rfl rfl rfl (by decide) (by decide) (by decide) (List.mem_of_getElem? (i := 10) rfl) (List.forall_mem_cons.mpr ⟨tb_in 59 (by decide +kernel) (by decide +kernel), List.forall_mem_cons.mpr ⟨tb_in 106 (by decide +kernel) (by decide +kernel), List.forall_mem_cons.mpr ⟨tb_in 107 (by decide +kernel) (by decide +kernel), fun _ h => absurd h List.not_mem_nil⟩⟩⟩) rfl ⟨rfl, rfl⟩ ⟨Nat.le_of_ble_eq_true rfl, Nat.le_of_ble_eq_true rfl⟩ (by decide +kernel) rfl hl.1 rfl (Nat.le_of_ble_eq_true rfl) ⟨Nat.le_of_ble_eq_true rfl, Nat.le_of_ble_eq_true rfl⟩ dX10_init_1 (fun a1 H locs hP hD hS => ?_)
  have hP : va_P D vwCl [(h0, .inr (k, []))] _ := hP
  have hD : va_D A [(h0, .inr (k, []))] := hD
  refine W.widen (k := 0) (n := 0) (Nat.le_of_ble_eq_true rfl) (Nat.le_of_ble_eq_true rfl) ?_
  exact rv_I C hAe.symm hr (fun i => ([] : List Nat).getD i 0) hP hD hS dX10_init_4
set_option maxRecDepth 20000 in
theorem ci_X1 (l : Launch) (D : va_G) (cA : Nat → ClassId) (sz h0 : Nat) (k : Nat) : Met l yX1_init (Cond.code yX1_init cX1_init 1 none :: tb) { frames := 3, cells := 0, slots := 0, locals := 52 } (PcI D cA [(h0, .inr (k, []))] [.ref h0] sz) (QI D cA [(h0, .inr (k, []))] (fun a => [(h0, .inr (k, []))]) sz) 0 0 (va_A [(h0, .inr (k, []))] sz) := by
  refine Met.ofW (cc := cX1_init) (maxL := 1) (ret := none) (by decide) rfl ?_
  intro p e s m args below meth c s₁ B hml hv
  have hv0 := hv
  obtain ⟨rfl, hsz, hP, -, hD0, -⟩ := hv
  subst hsz
  have C := CI.of (own := RX1) B hml (fun w h => List.mem_cons_of_mem _ h) rfl hv0
  have hr := B.returns
  have hin : meth.name = "<init>" := (name_of_methodNamed B.named B.method).1
  have hD := hD0.self (sz := s.heap.size)
  have hS : va_S (va_A [(h0, .inr (k, []))] s.heap.size) s.heap s.heap [] := va_S.rf
  generalize hAe : va_A [(h0, .inr (k, []))] s.heap.size = A at C hD hS ⊢
  have hl := lv_entry ([.ref h0]) (n := 1) (Nat.le_of_ble_eq_true rfl)
  rw [lg_entry_eq]
  generalize (lg_sl ([.ref h0]) ++ List.replicate (1 - (lg_sl ([.ref h0])).length) Slot.unset).toArray = ls at hl ⊢
  have hl : lv_has ls 1 [(0, .ref h0)] := hl
  refine lv_aload_n C.1 C.2.1 dX1_init_0 rfl (lv_at hl 0 rfl) ?_
  refine cn_I (n := 0) (As := []) (rest := []) (wr := []) C (ci_X7 l D cA _ h0 k) hP hD hS [0] [] rfl rfl rfl (by decide) (by decide) (by decide) (List.mem_of_getElem? (i := 11) rfl) (List.forall_mem_cons.mpr ⟨tb_in 60 (by decide +kernel) (by decide +kernel), List.forall_mem_cons.mpr ⟨tb_in 113 (by decide +kernel) (by decide +kernel), List.forall_mem_cons.mpr ⟨tb_in 114 (by decide +kernel) (by decide +kernel), fun _ h => absurd h List.not_mem_nil⟩⟩⟩) rfl ⟨rfl, rfl⟩ ⟨Nat.le_of_ble_eq_true rfl, Nat.le_of_ble_eq_true rfl⟩ (by decide +kernel) rfl hl.1 rfl (Nat.le_of_ble_eq_true rfl) ⟨Nat.le_of_ble_eq_true rfl, Nat.le_of_ble_eq_true rfl⟩ dX1_init_1 (fun a1 H locs hP hD hS => ?_)
  have hP : va_P D vwCl [(h0, .inr (k, []))] _ := hP
  have hD : va_D A [(h0, .inr (k, []))] := hD
  refine W.widen (k := 0) (n := 0) (Nat.le_of_ble_eq_true rfl) (Nat.le_of_ble_eq_true rfl) ?_
  exact rv_I C hAe.symm hr (fun i => ([] : List Nat).getD i 0) hP hD hS dX1_init_4
set_option maxRecDepth 20000 in
theorem ci_X3 (l : Launch) (D : va_G) (cA : Nat → ClassId) (sz h0 : Nat) : Met l yX3_init (Cond.code yX3_init cX3_init 1 none :: tb) { frames := 1, cells := 1, slots := 12, locals := 12 } (PcI D cA [(h0, .inr (3, [.null, .int 0]))] [.ref h0] sz) (QI D cA [(h0, .inr (3, [.null, .int 0]))] (fun a => [(h0, .inr (3, [.ref (a 0), .int 0])), ((a 0), .inl (cA 0, 12, .inl (fun _ => 0)))]) sz) 1 12 (va_A [(h0, .inr (3, [.null, .int 0]))] sz) := by
  refine Met.ofW (cc := cX3_init) (maxL := 1) (ret := none) (by decide) rfl ?_
  intro p e s m args below meth c s₁ B hml hv
  have hv0 := hv
  obtain ⟨rfl, hsz, hP, -, hD0, -⟩ := hv
  subst hsz
  have C := CI.of (own := RX3) B hml (fun w h => List.mem_cons_of_mem _ h) rfl hv0
  have hr := B.returns
  have hin : meth.name = "<init>" := (name_of_methodNamed B.named B.method).1
  have hD := hD0.self (sz := s.heap.size)
  have hS : va_S (va_A [(h0, .inr (3, [.null, .int 0]))] s.heap.size) s.heap s.heap [] := va_S.rf
  generalize hAe : va_A [(h0, .inr (3, [.null, .int 0]))] s.heap.size = A at C hD hS ⊢
  have hl := lv_entry ([.ref h0]) (n := 1) (Nat.le_of_ble_eq_true rfl)
  rw [lg_entry_eq]
  generalize (lg_sl ([.ref h0]) ++ List.replicate (1 - (lg_sl ([.ref h0])).length) Slot.unset).toArray = ls at hl ⊢
  have hl : lv_has ls 1 [(0, .ref h0)] := hl
  refine lv_aload_n C.1 C.2.1 dX3_init_0 rfl (lv_at hl 0 rfl) ?_
  refine oi_I C (tb_in 91 (by decide +kernel) (by decide +kernel)) hl.1 (Nat.le_of_ble_eq_true rfl) (Nat.le_of_ble_eq_true rfl) dX3_init_1 ?_
  refine lv_aload_n C.1 C.2.1 dX3_init_4 rfl (lv_at hl 0 rfl) ?_
  refine lv_bipush (v := (12)) C.1 C.2.1 dX3_init_5 (by decide) ?_
  refine ni_I C hP hD hS (N := 12) (by decide) (by decide) (Nat.le_of_ble_eq_true rfl) (Nat.le_of_ble_eq_true rfl) (Nat.le_of_ble_eq_true rfl) dX3_init_7 (fun q1 H hP hD hS => ?_)
  have hP : va_P D vwCl [(h0, .inr (3, [.null, .int 0])), (q1, .inl (cA 0, 12, .inl (fun _ => 0)))] _ := hP
  have hD : va_D A [(h0, .inr (3, [.null, .int 0])), (q1, .inl (cA 0, 12, .inl (fun _ => 0)))] := hD
  refine va_putF (D := D) (ci := 3) (v := .ref q1) (ty := .array .int) (C := RX3) (T := TX3) (N := 2) C.1 C.2.1 C.2.2.2.2.1 inX3 tyX3 tyX3_ok nmX3 C.2.2.2.1 C.2.2.2.2.2.1 hP hD hS 0 rfl rfl 0 (by decide) (C.2.2.2.2.1 (.fieldLink RX3 9 "JudgedRows$Page" "codes" "[I") (tb_in 92 (by decide +kernel) (by decide +kernel))) (fun _ h9 => h9) rfl hin rfl (by decide +kernel) rfl rfl (Nat.le_of_ble_eq_true rfl) dX3_init_9 (fun H locs hP hD hS => ?_)
  have hP : va_P D vwCl [(h0, .inr (3, [.ref q1, .int 0])), (q1, .inl (cA 0, 12, .inl (fun _ => 0)))] _ := hP
  have hD : va_D A [(h0, .inr (3, [.ref q1, .int 0])), (q1, .inl (cA 0, 12, .inl (fun _ => 0)))] := hD
  refine W.widen (k := 1) (n := 12) (Nat.le_of_ble_eq_true rfl) (Nat.le_of_ble_eq_true rfl) ?_
  exact rv_I C hAe.symm hr (fun i => ([q1] : List Nat).getD i 0) hP hD hS dX3_init_12
set_option maxRecDepth 20000 in
theorem ci_X0 (l : Launch) (D : va_G) (cA : Nat → ClassId) (sz h0 : Nat) : Met l yX0_init (Cond.code yX0_init cX0_init 1 none :: tb) { frames := 1, cells := 4, slots := 39, locals := 12 } (PcI D cA [(h0, .inr (0, [.null, .null, .null, .null, .int 0, .int 0]))] [.ref h0] sz) (QI D cA [(h0, .inr (0, [.null, .null, .null, .null, .int 0, .int 0]))] (fun a => [(h0, .inr (0, [.ref (a 0), .ref (a 1), .ref (a 2), .ref (a 3), .int 0, .int 0])), ((a 0), .inl (cA 0, 3, .inl (fun _ => 0))), ((a 1), .inl (cA 0, 12, .inl (fun _ => 0))), ((a 2), .inl (cA 0, 12, .inl (fun _ => 0))), ((a 3), .inl (cA 0, 12, .inl (fun _ => 0)))]) sz) 4 39 (va_A [(h0, .inr (0, [.null, .null, .null, .null, .int 0, .int 0]))] sz) := by
  refine Met.ofW (cc := cX0_init) (maxL := 1) (ret := none) (by decide) rfl ?_
  intro p e s m args below meth c s₁ B hml hv
  have hv0 := hv
  obtain ⟨rfl, hsz, hP, -, hD0, -⟩ := hv
  subst hsz
  have C := CI.of (own := RX0) B hml (fun w h => List.mem_cons_of_mem _ h) rfl hv0
  have hr := B.returns
  have hin : meth.name = "<init>" := (name_of_methodNamed B.named B.method).1
  have hD := hD0.self (sz := s.heap.size)
  have hS : va_S (va_A [(h0, .inr (0, [.null, .null, .null, .null, .int 0, .int 0]))] s.heap.size) s.heap s.heap [] := va_S.rf
  generalize hAe : va_A [(h0, .inr (0, [.null, .null, .null, .null, .int 0, .int 0]))] s.heap.size = A at C hD hS ⊢
  have hl := lv_entry ([.ref h0]) (n := 1) (Nat.le_of_ble_eq_true rfl)
  rw [lg_entry_eq]
  generalize (lg_sl ([.ref h0]) ++ List.replicate (1 - (lg_sl ([.ref h0])).length) Slot.unset).toArray = ls at hl ⊢
  have hl : lv_has ls 1 [(0, .ref h0)] := hl
  refine lv_aload_n C.1 C.2.1 dX0_init_0 rfl (lv_at hl 0 rfl) ?_
  refine oi_I C (tb_in 143 (by decide +kernel) (by decide +kernel)) hl.1 (Nat.le_of_ble_eq_true rfl) (Nat.le_of_ble_eq_true rfl) dX0_init_1 ?_
  refine lv_aload_n C.1 C.2.1 dX0_init_4 rfl (lv_at hl 0 rfl) ?_
  refine lv_iconst (v := (3)) C.1 C.2.1 dX0_init_5 (by decide) ?_
  refine ni_I C hP hD hS (N := 3) (by decide) (by decide) (Nat.le_of_ble_eq_true rfl) (Nat.le_of_ble_eq_true rfl) (Nat.le_of_ble_eq_true rfl) dX0_init_6 (fun q1 H hP hD hS => ?_)
  have hP : va_P D vwCl [(h0, .inr (0, [.null, .null, .null, .null, .int 0, .int 0])), (q1, .inl (cA 0, 3, .inl (fun _ => 0)))] _ := hP
  have hD : va_D A [(h0, .inr (0, [.null, .null, .null, .null, .int 0, .int 0])), (q1, .inl (cA 0, 3, .inl (fun _ => 0)))] := hD
  refine va_putF (D := D) (ci := 0) (v := .ref q1) (ty := .array .int) (C := RX0) (T := TX0) (N := 6) C.1 C.2.1 C.2.2.2.2.1 inX0 tyX0 tyX0_ok nmX0 C.2.2.2.1 C.2.2.2.2.2.1 hP hD hS 0 rfl rfl 0 (by decide) (C.2.2.2.2.1 (.fieldLink RX0 9 "JudgedRows$Course" "kinds" "[I") (tb_in 144 (by decide +kernel) (by decide +kernel))) (fun _ h9 => h9) rfl hin rfl (by decide +kernel) rfl rfl (Nat.le_of_ble_eq_true rfl) dX0_init_8 (fun H locs hP hD hS => ?_)
  have hP : va_P D vwCl [(h0, .inr (0, [.ref q1, .null, .null, .null, .int 0, .int 0])), (q1, .inl (cA 0, 3, .inl (fun _ => 0)))] _ := hP
  have hD : va_D A [(h0, .inr (0, [.ref q1, .null, .null, .null, .int 0, .int 0])), (q1, .inl (cA 0, 3, .inl (fun _ => 0)))] := hD
  refine lv_aload_n C.1 C.2.1 dX0_init_11 rfl (lv_at hl 0 rfl) ?_
  refine lv_bipush (v := (12)) C.1 C.2.1 dX0_init_12 (by decide) ?_
  refine ni_I C hP hD hS (N := 12) (by decide) (by decide) (Nat.le_of_ble_eq_true rfl) (Nat.le_of_ble_eq_true rfl) (Nat.le_of_ble_eq_true rfl) dX0_init_14 (fun q2 H hP hD hS => ?_)
  have hP : va_P D vwCl [(h0, .inr (0, [.ref q1, .null, .null, .null, .int 0, .int 0])), (q1, .inl (cA 0, 3, .inl (fun _ => 0))), (q2, .inl (cA 0, 12, .inl (fun _ => 0)))] _ := hP
  have hD : va_D A [(h0, .inr (0, [.ref q1, .null, .null, .null, .int 0, .int 0])), (q1, .inl (cA 0, 3, .inl (fun _ => 0))), (q2, .inl (cA 0, 12, .inl (fun _ => 0)))] := hD
  refine va_putF (D := D) (ci := 0) (v := .ref q2) (ty := .array .int) (C := RX0) (T := TX0) (N := 6) C.1 C.2.1 C.2.2.2.2.1 inX0 tyX0 tyX0_ok nmX0 C.2.2.2.1 C.2.2.2.2.2.1 hP hD hS 0 rfl rfl 1 (by decide) (C.2.2.2.2.1 (.fieldLink RX0 15 "JudgedRows$Course" "rowOf" "[I") (tb_in 146 (by decide +kernel) (by decide +kernel))) (fun _ h9 => h9) rfl hin rfl (by decide +kernel) rfl rfl (Nat.le_of_ble_eq_true rfl) dX0_init_16 (fun H locs hP hD hS => ?_)
  have hP : va_P D vwCl [(h0, .inr (0, [.ref q1, .ref q2, .null, .null, .int 0, .int 0])), (q1, .inl (cA 0, 3, .inl (fun _ => 0))), (q2, .inl (cA 0, 12, .inl (fun _ => 0)))] _ := hP
  have hD : va_D A [(h0, .inr (0, [.ref q1, .ref q2, .null, .null, .int 0, .int 0])), (q1, .inl (cA 0, 3, .inl (fun _ => 0))), (q2, .inl (cA 0, 12, .inl (fun _ => 0)))] := hD
  refine lv_aload_n C.1 C.2.1 dX0_init_19 rfl (lv_at hl 0 rfl) ?_
  refine lv_bipush (v := (12)) C.1 C.2.1 dX0_init_20 (by decide) ?_
  refine ni_I C hP hD hS (N := 12) (by decide) (by decide) (Nat.le_of_ble_eq_true rfl) (Nat.le_of_ble_eq_true rfl) (Nat.le_of_ble_eq_true rfl) dX0_init_22 (fun q3 H hP hD hS => ?_)
  have hP : va_P D vwCl [(h0, .inr (0, [.ref q1, .ref q2, .null, .null, .int 0, .int 0])), (q1, .inl (cA 0, 3, .inl (fun _ => 0))), (q2, .inl (cA 0, 12, .inl (fun _ => 0))), (q3, .inl (cA 0, 12, .inl (fun _ => 0)))] _ := hP
  have hD : va_D A [(h0, .inr (0, [.ref q1, .ref q2, .null, .null, .int 0, .int 0])), (q1, .inl (cA 0, 3, .inl (fun _ => 0))), (q2, .inl (cA 0, 12, .inl (fun _ => 0))), (q3, .inl (cA 0, 12, .inl (fun _ => 0)))] := hD
  refine va_putF (D := D) (ci := 0) (v := .ref q3) (ty := .array .int) (C := RX0) (T := TX0) (N := 6) C.1 C.2.1 C.2.2.2.2.1 inX0 tyX0 tyX0_ok nmX0 C.2.2.2.1 C.2.2.2.2.2.1 hP hD hS 0 rfl rfl 2 (by decide) (C.2.2.2.2.1 (.fieldLink RX0 18 "JudgedRows$Course" "judgeOf" "[I") (tb_in 148 (by decide +kernel) (by decide +kernel))) (fun _ h9 => h9) rfl hin rfl (by decide +kernel) rfl rfl (Nat.le_of_ble_eq_true rfl) dX0_init_24 (fun H locs hP hD hS => ?_)
  have hP : va_P D vwCl [(h0, .inr (0, [.ref q1, .ref q2, .ref q3, .null, .int 0, .int 0])), (q1, .inl (cA 0, 3, .inl (fun _ => 0))), (q2, .inl (cA 0, 12, .inl (fun _ => 0))), (q3, .inl (cA 0, 12, .inl (fun _ => 0)))] _ := hP
  have hD : va_D A [(h0, .inr (0, [.ref q1, .ref q2, .ref q3, .null, .int 0, .int 0])), (q1, .inl (cA 0, 3, .inl (fun _ => 0))), (q2, .inl (cA 0, 12, .inl (fun _ => 0))), (q3, .inl (cA 0, 12, .inl (fun _ => 0)))] := hD
  refine lv_aload_n C.1 C.2.1 dX0_init_27 rfl (lv_at hl 0 rfl) ?_
  refine lv_bipush (v := (12)) C.1 C.2.1 dX0_init_28 (by decide) ?_
  refine ni_I C hP hD hS (N := 12) (by decide) (by decide) (Nat.le_of_ble_eq_true rfl) (Nat.le_of_ble_eq_true rfl) (Nat.le_of_ble_eq_true rfl) dX0_init_30 (fun q4 H hP hD hS => ?_)
  have hP : va_P D vwCl [(h0, .inr (0, [.ref q1, .ref q2, .ref q3, .null, .int 0, .int 0])), (q1, .inl (cA 0, 3, .inl (fun _ => 0))), (q2, .inl (cA 0, 12, .inl (fun _ => 0))), (q3, .inl (cA 0, 12, .inl (fun _ => 0))), (q4, .inl (cA 0, 12, .inl (fun _ => 0)))] _ := hP
  have hD : va_D A [(h0, .inr (0, [.ref q1, .ref q2, .ref q3, .null, .int 0, .int 0])), (q1, .inl (cA 0, 3, .inl (fun _ => 0))), (q2, .inl (cA 0, 12, .inl (fun _ => 0))), (q3, .inl (cA 0, 12, .inl (fun _ => 0))), (q4, .inl (cA 0, 12, .inl (fun _ => 0)))] := hD
  refine va_putF (D := D) (ci := 0) (v := .ref q4) (ty := .array .int) (C := RX0) (T := TX0) (N := 6) C.1 C.2.1 C.2.2.2.2.1 inX0 tyX0 tyX0_ok nmX0 C.2.2.2.1 C.2.2.2.2.2.1 hP hD hS 0 rfl rfl 3 (by decide) (C.2.2.2.2.1 (.fieldLink RX0 21 "JudgedRows$Course" "toldOf" "[I") (tb_in 150 (by decide +kernel) (by decide +kernel))) (fun _ h9 => h9) rfl hin rfl (by decide +kernel) rfl rfl (Nat.le_of_ble_eq_true rfl) dX0_init_32 (fun H locs hP hD hS => ?_)
  have hP : va_P D vwCl [(h0, .inr (0, [.ref q1, .ref q2, .ref q3, .ref q4, .int 0, .int 0])), (q1, .inl (cA 0, 3, .inl (fun _ => 0))), (q2, .inl (cA 0, 12, .inl (fun _ => 0))), (q3, .inl (cA 0, 12, .inl (fun _ => 0))), (q4, .inl (cA 0, 12, .inl (fun _ => 0)))] _ := hP
  have hD : va_D A [(h0, .inr (0, [.ref q1, .ref q2, .ref q3, .ref q4, .int 0, .int 0])), (q1, .inl (cA 0, 3, .inl (fun _ => 0))), (q2, .inl (cA 0, 12, .inl (fun _ => 0))), (q3, .inl (cA 0, 12, .inl (fun _ => 0))), (q4, .inl (cA 0, 12, .inl (fun _ => 0)))] := hD
  refine W.widen (k := 4) (n := 39) (Nat.le_of_ble_eq_true rfl) (Nat.le_of_ble_eq_true rfl) ?_
  exact rv_I C hAe.symm hr (fun i => ([q1, q2, q3, q4] : List Nat).getD i 0) hP hD hS dX0_init_35
set_option maxRecDepth 20000 in
theorem ci_X6 (l : Launch) (D : va_G) (cA : Nat → ClassId) (sz h0 : Nat) : Met l yX6_init (Cond.code yX6_init cX6_init 1 none :: tb) { frames := 1, cells := 3, slots := 648, locals := 12 } (PcI D cA [(h0, .inr (6, [.int 0, .int 0, .int 0, .null, .null, .null]))] [.ref h0] sz) (QI D cA [(h0, .inr (6, [.int 0, .int 0, .int 0, .null, .null, .null]))] (fun a => [(h0, .inr (6, [.int 0, .int 0, .int 0, .ref (a 0), .ref (a 1), .ref (a 2)])), ((a 0), .inl (cA 0, 216, .inl (fun _ => 0))), ((a 1), .inl (cA 0, 216, .inl (fun _ => 0))), ((a 2), .inl (cA 0, 216, .inl (fun _ => 0)))]) sz) 3 648 (va_A [(h0, .inr (6, [.int 0, .int 0, .int 0, .null, .null, .null]))] sz) := by
  refine Met.ofW (cc := cX6_init) (maxL := 1) (ret := none) (by decide) rfl ?_
  intro p e s m args below meth c s₁ B hml hv
  have hv0 := hv
  obtain ⟨rfl, hsz, hP, -, hD0, -⟩ := hv
  subst hsz
  have C := CI.of (own := RX6) B hml (fun w h => List.mem_cons_of_mem _ h) rfl hv0
  have hr := B.returns
  have hin : meth.name = "<init>" := (name_of_methodNamed B.named B.method).1
  have hD := hD0.self (sz := s.heap.size)
  have hS : va_S (va_A [(h0, .inr (6, [.int 0, .int 0, .int 0, .null, .null, .null]))] s.heap.size) s.heap s.heap [] := va_S.rf
  generalize hAe : va_A [(h0, .inr (6, [.int 0, .int 0, .int 0, .null, .null, .null]))] s.heap.size = A at C hD hS ⊢
  have hl := lv_entry ([.ref h0]) (n := 1) (Nat.le_of_ble_eq_true rfl)
  rw [lg_entry_eq]
  generalize (lg_sl ([.ref h0]) ++ List.replicate (1 - (lg_sl ([.ref h0])).length) Slot.unset).toArray = ls at hl ⊢
  have hl : lv_has ls 1 [(0, .ref h0)] := hl
  refine lv_aload_n C.1 C.2.1 dX6_init_0 rfl (lv_at hl 0 rfl) ?_
  refine oi_I C (tb_in 174 (by decide +kernel) (by decide +kernel)) hl.1 (Nat.le_of_ble_eq_true rfl) (Nat.le_of_ble_eq_true rfl) dX6_init_1 ?_
  refine lv_aload_n C.1 C.2.1 dX6_init_4 rfl (lv_at hl 0 rfl) ?_
  refine lv_sipush (v := (216)) C.1 C.2.1 dX6_init_5 (by decide) ?_
  refine ni_I C hP hD hS (N := 216) (by decide) (by decide) (Nat.le_of_ble_eq_true rfl) (Nat.le_of_ble_eq_true rfl) (Nat.le_of_ble_eq_true rfl) dX6_init_8 (fun q1 H hP hD hS => ?_)
  have hP : va_P D vwCl [(h0, .inr (6, [.int 0, .int 0, .int 0, .null, .null, .null])), (q1, .inl (cA 0, 216, .inl (fun _ => 0)))] _ := hP
  have hD : va_D A [(h0, .inr (6, [.int 0, .int 0, .int 0, .null, .null, .null])), (q1, .inl (cA 0, 216, .inl (fun _ => 0)))] := hD
  refine va_putF (D := D) (ci := 6) (v := .ref q1) (ty := .array .int) (C := RX6) (T := TX6) (N := 6) C.1 C.2.1 C.2.2.2.2.1 inX6 tyX6 tyX6_ok nmX6 C.2.2.2.1 C.2.2.2.2.2.1 hP hD hS 0 rfl rfl 3 (by decide) (C.2.2.2.2.1 (.fieldLink RX6 9 "JudgedRows$Rows" "places" "[I") (tb_in 184 (by decide +kernel) (by decide +kernel))) (fun _ h9 => h9) rfl hin rfl (by decide +kernel) rfl rfl (Nat.le_of_ble_eq_true rfl) dX6_init_10 (fun H locs hP hD hS => ?_)
  have hP : va_P D vwCl [(h0, .inr (6, [.int 0, .int 0, .int 0, .ref q1, .null, .null])), (q1, .inl (cA 0, 216, .inl (fun _ => 0)))] _ := hP
  have hD : va_D A [(h0, .inr (6, [.int 0, .int 0, .int 0, .ref q1, .null, .null])), (q1, .inl (cA 0, 216, .inl (fun _ => 0)))] := hD
  refine lv_aload_n C.1 C.2.1 dX6_init_13 rfl (lv_at hl 0 rfl) ?_
  refine lv_sipush (v := (216)) C.1 C.2.1 dX6_init_14 (by decide) ?_
  refine ni_I C hP hD hS (N := 216) (by decide) (by decide) (Nat.le_of_ble_eq_true rfl) (Nat.le_of_ble_eq_true rfl) (Nat.le_of_ble_eq_true rfl) dX6_init_17 (fun q2 H hP hD hS => ?_)
  have hP : va_P D vwCl [(h0, .inr (6, [.int 0, .int 0, .int 0, .ref q1, .null, .null])), (q1, .inl (cA 0, 216, .inl (fun _ => 0))), (q2, .inl (cA 0, 216, .inl (fun _ => 0)))] _ := hP
  have hD : va_D A [(h0, .inr (6, [.int 0, .int 0, .int 0, .ref q1, .null, .null])), (q1, .inl (cA 0, 216, .inl (fun _ => 0))), (q2, .inl (cA 0, 216, .inl (fun _ => 0)))] := hD
  refine va_putF (D := D) (ci := 6) (v := .ref q2) (ty := .array .int) (C := RX6) (T := TX6) (N := 6) C.1 C.2.1 C.2.2.2.2.1 inX6 tyX6 tyX6_ok nmX6 C.2.2.2.1 C.2.2.2.2.2.1 hP hD hS 0 rfl rfl 4 (by decide) (C.2.2.2.2.1 (.fieldLink RX6 15 "JudgedRows$Rows" "placesFromOtherEnd" "[I") (tb_in 185 (by decide +kernel) (by decide +kernel))) (fun _ h9 => h9) rfl hin rfl (by decide +kernel) rfl rfl (Nat.le_of_ble_eq_true rfl) dX6_init_19 (fun H locs hP hD hS => ?_)
  have hP : va_P D vwCl [(h0, .inr (6, [.int 0, .int 0, .int 0, .ref q1, .ref q2, .null])), (q1, .inl (cA 0, 216, .inl (fun _ => 0))), (q2, .inl (cA 0, 216, .inl (fun _ => 0)))] _ := hP
  have hD : va_D A [(h0, .inr (6, [.int 0, .int 0, .int 0, .ref q1, .ref q2, .null])), (q1, .inl (cA 0, 216, .inl (fun _ => 0))), (q2, .inl (cA 0, 216, .inl (fun _ => 0)))] := hD
  refine lv_aload_n C.1 C.2.1 dX6_init_22 rfl (lv_at hl 0 rfl) ?_
  refine lv_sipush (v := (216)) C.1 C.2.1 dX6_init_23 (by decide) ?_
  refine ni_I C hP hD hS (N := 216) (by decide) (by decide) (Nat.le_of_ble_eq_true rfl) (Nat.le_of_ble_eq_true rfl) (Nat.le_of_ble_eq_true rfl) dX6_init_26 (fun q3 H hP hD hS => ?_)
  have hP : va_P D vwCl [(h0, .inr (6, [.int 0, .int 0, .int 0, .ref q1, .ref q2, .null])), (q1, .inl (cA 0, 216, .inl (fun _ => 0))), (q2, .inl (cA 0, 216, .inl (fun _ => 0))), (q3, .inl (cA 0, 216, .inl (fun _ => 0)))] _ := hP
  have hD : va_D A [(h0, .inr (6, [.int 0, .int 0, .int 0, .ref q1, .ref q2, .null])), (q1, .inl (cA 0, 216, .inl (fun _ => 0))), (q2, .inl (cA 0, 216, .inl (fun _ => 0))), (q3, .inl (cA 0, 216, .inl (fun _ => 0)))] := hD
  refine va_putF (D := D) (ci := 6) (v := .ref q3) (ty := .array .int) (C := RX6) (T := TX6) (N := 6) C.1 C.2.1 C.2.2.2.2.1 inX6 tyX6 tyX6_ok nmX6 C.2.2.2.1 C.2.2.2.2.2.1 hP hD hS 0 rfl rfl 5 (by decide) (C.2.2.2.2.1 (.fieldLink RX6 18 "JudgedRows$Rows" "heaps" "[I") (tb_in 186 (by decide +kernel) (by decide +kernel))) (fun _ h9 => h9) rfl hin rfl (by decide +kernel) rfl rfl (Nat.le_of_ble_eq_true rfl) dX6_init_28 (fun H locs hP hD hS => ?_)
  have hP : va_P D vwCl [(h0, .inr (6, [.int 0, .int 0, .int 0, .ref q1, .ref q2, .ref q3])), (q1, .inl (cA 0, 216, .inl (fun _ => 0))), (q2, .inl (cA 0, 216, .inl (fun _ => 0))), (q3, .inl (cA 0, 216, .inl (fun _ => 0)))] _ := hP
  have hD : va_D A [(h0, .inr (6, [.int 0, .int 0, .int 0, .ref q1, .ref q2, .ref q3])), (q1, .inl (cA 0, 216, .inl (fun _ => 0))), (q2, .inl (cA 0, 216, .inl (fun _ => 0))), (q3, .inl (cA 0, 216, .inl (fun _ => 0)))] := hD
  refine W.widen (k := 3) (n := 648) (Nat.le_of_ble_eq_true rfl) (Nat.le_of_ble_eq_true rfl) ?_
  exact rv_I C hAe.symm hr (fun i => ([q1, q2, q3] : List Nat).getD i 0) hP hD hS dX6_init_31
set_option maxRecDepth 20000 in
theorem ci_X5 (l : Launch) (D : va_G) (cA : Nat → ClassId) (sz h0 : Nat) (r1 : Nat) : Met l yX5_init (Cond.code yX5_init cX5_init 2 none :: tb) { frames := 1, cells := 3, slots := 463, locals := 12 } (PcI D cA [(h0, .inr (5, [.null, .null, .int 0, .null, .null]))] [.ref h0, .ref r1] sz) (QI D cA [(h0, .inr (5, [.null, .null, .int 0, .null, .null]))] (fun a => [(h0, .inr (5, [.ref r1, .ref (a 0), .int 0, .ref (a 1), .ref (a 2)])), ((a 0), .inl (cA 0, 216, .inl (fun _ => 0))), ((a 1), .inl (cA 1, 216, .inl (fun _ => 0))), ((a 2), .inl (cA 0, 31, .inl (fun _ => 0)))]) sz) 3 463 (va_A [(h0, .inr (5, [.null, .null, .int 0, .null, .null]))] sz) := by
  refine Met.ofW (cc := cX5_init) (maxL := 2) (ret := none) (by decide) rfl ?_
  intro p e s m args below meth c s₁ B hml hv
  have hv0 := hv
  obtain ⟨rfl, hsz, hP, -, hD0, -⟩ := hv
  subst hsz
  have C := CI.of (own := RX5) B hml (fun w h => List.mem_cons_of_mem _ h) rfl hv0
  have hr := B.returns
  have hin : meth.name = "<init>" := (name_of_methodNamed B.named B.method).1
  have hD := hD0.self (sz := s.heap.size)
  have hS : va_S (va_A [(h0, .inr (5, [.null, .null, .int 0, .null, .null]))] s.heap.size) s.heap s.heap [] := va_S.rf
  generalize hAe : va_A [(h0, .inr (5, [.null, .null, .int 0, .null, .null]))] s.heap.size = A at C hD hS ⊢
  have hl := lv_entry ([.ref h0, .ref r1]) (n := 2) (Nat.le_of_ble_eq_true rfl)
  rw [lg_entry_eq]
  generalize (lg_sl ([.ref h0, .ref r1]) ++ List.replicate (2 - (lg_sl ([.ref h0, .ref r1])).length) Slot.unset).toArray = ls at hl ⊢
  have hl : lv_has ls 2 [(0, .ref h0), (1, .ref r1)] := hl
  refine lv_aload_n C.1 C.2.1 dX5_init_0 rfl (lv_at hl 0 rfl) ?_
  refine oi_I C (tb_in 205 (by decide +kernel) (by decide +kernel)) hl.1 (Nat.le_of_ble_eq_true rfl) (Nat.le_of_ble_eq_true rfl) dX5_init_1 ?_
  refine lv_aload_n C.1 C.2.1 dX5_init_4 rfl (lv_at hl 0 rfl) ?_
  refine lv_sipush (v := (216)) C.1 C.2.1 dX5_init_5 (by decide) ?_
  refine ni_I C hP hD hS (N := 216) (by decide) (by decide) (Nat.le_of_ble_eq_true rfl) (Nat.le_of_ble_eq_true rfl) (Nat.le_of_ble_eq_true rfl) dX5_init_8 (fun q1 H hP hD hS => ?_)
  have hP : va_P D vwCl [(h0, .inr (5, [.null, .null, .int 0, .null, .null])), (q1, .inl (cA 0, 216, .inl (fun _ => 0)))] _ := hP
  have hD : va_D A [(h0, .inr (5, [.null, .null, .int 0, .null, .null])), (q1, .inl (cA 0, 216, .inl (fun _ => 0)))] := hD
  refine va_putF (D := D) (ci := 5) (v := .ref q1) (ty := .array .int) (C := RX5) (T := TX5) (N := 5) C.1 C.2.1 C.2.2.2.2.1 inX5 tyX5 tyX5_ok nmX5 C.2.2.2.1 C.2.2.2.2.2.1 hP hD hS 0 rfl rfl 1 (by decide) (C.2.2.2.2.1 (.fieldLink RX5 9 "JudgedRows$Pool" "members" "[I") (tb_in 207 (by decide +kernel) (by decide +kernel))) (fun _ h9 => h9) rfl hin rfl (by decide +kernel) rfl rfl (Nat.le_of_ble_eq_true rfl) dX5_init_10 (fun H locs hP hD hS => ?_)
  have hP : va_P D vwCl [(h0, .inr (5, [.null, .ref q1, .int 0, .null, .null])), (q1, .inl (cA 0, 216, .inl (fun _ => 0)))] _ := hP
  have hD : va_D A [(h0, .inr (5, [.null, .ref q1, .int 0, .null, .null])), (q1, .inl (cA 0, 216, .inl (fun _ => 0)))] := hD
  refine lv_aload_n C.1 C.2.1 dX5_init_13 rfl (lv_at hl 0 rfl) ?_
  refine lv_sipush (v := (216)) C.1 C.2.1 dX5_init_14 (by decide) ?_
  refine zi_I C hP hD hS (N := 216) (by decide) (by decide) (Nat.le_of_ble_eq_true rfl) (Nat.le_of_ble_eq_true rfl) (Nat.le_of_ble_eq_true rfl) dX5_init_17 (fun q2 H hP hD hS => ?_)
  have hP : va_P D vwCl [(h0, .inr (5, [.null, .ref q1, .int 0, .null, .null])), (q1, .inl (cA 0, 216, .inl (fun _ => 0))), (q2, .inl (cA 1, 216, .inl (fun _ => 0)))] _ := hP
  have hD : va_D A [(h0, .inr (5, [.null, .ref q1, .int 0, .null, .null])), (q1, .inl (cA 0, 216, .inl (fun _ => 0))), (q2, .inl (cA 1, 216, .inl (fun _ => 0)))] := hD
  refine va_putF (D := D) (ci := 5) (v := .ref q2) (ty := .array .boolean) (C := RX5) (T := TX5) (N := 5) C.1 C.2.1 C.2.2.2.2.1 inX5 tyX5 tyX5_ok nmX5 C.2.2.2.1 C.2.2.2.2.2.1 hP hD hS 0 rfl rfl 3 (by decide) (C.2.2.2.2.1 (.fieldLink RX5 15 "JudgedRows$Pool" "isMember" "[Z") (tb_in 213 (by decide +kernel) (by decide +kernel))) (fun _ h9 => h9) rfl hin rfl (by decide +kernel) rfl rfl (Nat.le_of_ble_eq_true rfl) dX5_init_19 (fun H locs hP hD hS => ?_)
  have hP : va_P D vwCl [(h0, .inr (5, [.null, .ref q1, .int 0, .ref q2, .null])), (q1, .inl (cA 0, 216, .inl (fun _ => 0))), (q2, .inl (cA 1, 216, .inl (fun _ => 0)))] _ := hP
  have hD : va_D A [(h0, .inr (5, [.null, .ref q1, .int 0, .ref q2, .null])), (q1, .inl (cA 0, 216, .inl (fun _ => 0))), (q2, .inl (cA 1, 216, .inl (fun _ => 0)))] := hD
  refine lv_aload_n C.1 C.2.1 dX5_init_22 rfl (lv_at hl 0 rfl) ?_
  refine lv_bipush (v := (31)) C.1 C.2.1 dX5_init_23 (by decide) ?_
  refine ni_I C hP hD hS (N := 31) (by decide) (by decide) (Nat.le_of_ble_eq_true rfl) (Nat.le_of_ble_eq_true rfl) (Nat.le_of_ble_eq_true rfl) dX5_init_25 (fun q3 H hP hD hS => ?_)
  have hP : va_P D vwCl [(h0, .inr (5, [.null, .ref q1, .int 0, .ref q2, .null])), (q1, .inl (cA 0, 216, .inl (fun _ => 0))), (q2, .inl (cA 1, 216, .inl (fun _ => 0))), (q3, .inl (cA 0, 31, .inl (fun _ => 0)))] _ := hP
  have hD : va_D A [(h0, .inr (5, [.null, .ref q1, .int 0, .ref q2, .null])), (q1, .inl (cA 0, 216, .inl (fun _ => 0))), (q2, .inl (cA 1, 216, .inl (fun _ => 0))), (q3, .inl (cA 0, 31, .inl (fun _ => 0)))] := hD
  refine va_putF (D := D) (ci := 5) (v := .ref q3) (ty := .array .int) (C := RX5) (T := TX5) (N := 5) C.1 C.2.1 C.2.2.2.2.1 inX5 tyX5 tyX5_ok nmX5 C.2.2.2.1 C.2.2.2.2.2.1 hP hD hS 0 rfl rfl 4 (by decide) (C.2.2.2.2.1 (.fieldLink RX5 19 "JudgedRows$Pool" "often" "[I") (tb_in 214 (by decide +kernel) (by decide +kernel))) (fun _ h9 => h9) rfl hin rfl (by decide +kernel) rfl rfl (Nat.le_of_ble_eq_true rfl) dX5_init_27 (fun H locs hP hD hS => ?_)
  have hP : va_P D vwCl [(h0, .inr (5, [.null, .ref q1, .int 0, .ref q2, .ref q3])), (q1, .inl (cA 0, 216, .inl (fun _ => 0))), (q2, .inl (cA 1, 216, .inl (fun _ => 0))), (q3, .inl (cA 0, 31, .inl (fun _ => 0)))] _ := hP
  have hD : va_D A [(h0, .inr (5, [.null, .ref q1, .int 0, .ref q2, .ref q3])), (q1, .inl (cA 0, 216, .inl (fun _ => 0))), (q2, .inl (cA 1, 216, .inl (fun _ => 0))), (q3, .inl (cA 0, 31, .inl (fun _ => 0)))] := hD
  refine lv_aload_n C.1 C.2.1 dX5_init_30 rfl (lv_at hl 0 rfl) ?_
  refine lv_aload_n C.1 C.2.1 dX5_init_31 rfl (lv_at hl 1 rfl) ?_
  refine va_putF (D := D) (ci := 5) (v := .ref r1) (ty := .object "JudgedRows$Rows") (C := RX5) (T := TX5) (N := 5) C.1 C.2.1 C.2.2.2.2.1 inX5 tyX5 tyX5_ok nmX5 C.2.2.2.1 C.2.2.2.2.2.1 hP hD hS 0 rfl rfl 0 (by decide) (C.2.2.2.2.1 (.fieldLink RX5 22 "JudgedRows$Pool" "rows" "LJudgedRows$Rows;") (tb_in 206 (by decide +kernel) (by decide +kernel))) (fun _ h9 => h9) rfl hin rfl (by decide +kernel) rfl rfl (Nat.le_of_ble_eq_true rfl) dX5_init_32 (fun H locs hP hD hS => ?_)
  have hP : va_P D vwCl [(h0, .inr (5, [.ref r1, .ref q1, .int 0, .ref q2, .ref q3])), (q1, .inl (cA 0, 216, .inl (fun _ => 0))), (q2, .inl (cA 1, 216, .inl (fun _ => 0))), (q3, .inl (cA 0, 31, .inl (fun _ => 0)))] _ := hP
  have hD : va_D A [(h0, .inr (5, [.ref r1, .ref q1, .int 0, .ref q2, .ref q3])), (q1, .inl (cA 0, 216, .inl (fun _ => 0))), (q2, .inl (cA 1, 216, .inl (fun _ => 0))), (q3, .inl (cA 0, 31, .inl (fun _ => 0)))] := hD
  refine W.widen (k := 3) (n := 463) (Nat.le_of_ble_eq_true rfl) (Nat.le_of_ble_eq_true rfl) ?_
  exact rv_I C hAe.symm hr (fun i => ([q1, q2, q3] : List Nat).getD i 0) hP hD hS dX5_init_35
set_option maxRecDepth 20000 in
theorem ci_X4 (l : Launch) (D : va_G) (cA : Nat → ClassId) (sz h0 : Nat) (r1 : Nat) : Met l yX4_init (Cond.code yX4_init cX4_init 2 none :: tb) { frames := 1, cells := 1, slots := 961, locals := 12 } (PcI D cA [(h0, .inr (4, [.null, .null, .int 0, .int 0, .int 0, .int 0]))] [.ref h0, .ref r1] sz) (QI D cA [(h0, .inr (4, [.null, .null, .int 0, .int 0, .int 0, .int 0]))] (fun a => [(h0, .inr (4, [.ref r1, .ref (a 0), .int 0, .int 0, .int 0, .int 0])), ((a 0), .inl (cA 0, 961, .inl (fun _ => 0)))]) sz) 1 961 (va_A [(h0, .inr (4, [.null, .null, .int 0, .int 0, .int 0, .int 0]))] sz) := by
  refine Met.ofW (cc := cX4_init) (maxL := 2) (ret := none) (by decide) rfl ?_
  intro p e s m args below meth c s₁ B hml hv
  have hv0 := hv
  obtain ⟨rfl, hsz, hP, -, hD0, -⟩ := hv
  subst hsz
  have C := CI.of (own := RX4) B hml (fun w h => List.mem_cons_of_mem _ h) rfl hv0
  have hr := B.returns
  have hin : meth.name = "<init>" := (name_of_methodNamed B.named B.method).1
  have hD := hD0.self (sz := s.heap.size)
  have hS : va_S (va_A [(h0, .inr (4, [.null, .null, .int 0, .int 0, .int 0, .int 0]))] s.heap.size) s.heap s.heap [] := va_S.rf
  generalize hAe : va_A [(h0, .inr (4, [.null, .null, .int 0, .int 0, .int 0, .int 0]))] s.heap.size = A at C hD hS ⊢
  have hl := lv_entry ([.ref h0, .ref r1]) (n := 2) (Nat.le_of_ble_eq_true rfl)
  rw [lg_entry_eq]
  generalize (lg_sl ([.ref h0, .ref r1]) ++ List.replicate (2 - (lg_sl ([.ref h0, .ref r1])).length) Slot.unset).toArray = ls at hl ⊢
  have hl : lv_has ls 2 [(0, .ref h0), (1, .ref r1)] := hl
  refine lv_aload_n C.1 C.2.1 dX4_init_0 rfl (lv_at hl 0 rfl) ?_
  refine oi_I C (tb_in 232 (by decide +kernel) (by decide +kernel)) hl.1 (Nat.le_of_ble_eq_true rfl) (Nat.le_of_ble_eq_true rfl) dX4_init_1 ?_
  refine lv_aload_n C.1 C.2.1 dX4_init_4 rfl (lv_at hl 0 rfl) ?_
  refine lv_sipush (v := (961)) C.1 C.2.1 dX4_init_5 (by decide) ?_
  refine ni_I C hP hD hS (N := 961) (by decide) (by decide) (Nat.le_of_ble_eq_true rfl) (Nat.le_of_ble_eq_true rfl) (Nat.le_of_ble_eq_true rfl) dX4_init_8 (fun q1 H hP hD hS => ?_)
  have hP : va_P D vwCl [(h0, .inr (4, [.null, .null, .int 0, .int 0, .int 0, .int 0])), (q1, .inl (cA 0, 961, .inl (fun _ => 0)))] _ := hP
  have hD : va_D A [(h0, .inr (4, [.null, .null, .int 0, .int 0, .int 0, .int 0])), (q1, .inl (cA 0, 961, .inl (fun _ => 0)))] := hD
  refine va_putF (D := D) (ci := 4) (v := .ref q1) (ty := .array .int) (C := RX4) (T := TX4) (N := 6) C.1 C.2.1 C.2.2.2.2.1 inX4 tyX4 tyX4_ok nmX4 C.2.2.2.1 C.2.2.2.2.2.1 hP hD hS 0 rfl rfl 1 (by decide) (C.2.2.2.2.1 (.fieldLink RX4 9 "JudgedRows$Parting" "marks" "[I") (tb_in 234 (by decide +kernel) (by decide +kernel))) (fun _ h9 => h9) rfl hin rfl (by decide +kernel) rfl rfl (Nat.le_of_ble_eq_true rfl) dX4_init_10 (fun H locs hP hD hS => ?_)
  have hP : va_P D vwCl [(h0, .inr (4, [.null, .ref q1, .int 0, .int 0, .int 0, .int 0])), (q1, .inl (cA 0, 961, .inl (fun _ => 0)))] _ := hP
  have hD : va_D A [(h0, .inr (4, [.null, .ref q1, .int 0, .int 0, .int 0, .int 0])), (q1, .inl (cA 0, 961, .inl (fun _ => 0)))] := hD
  refine lv_aload_n C.1 C.2.1 dX4_init_13 rfl (lv_at hl 0 rfl) ?_
  refine lv_aload_n C.1 C.2.1 dX4_init_14 rfl (lv_at hl 1 rfl) ?_
  refine va_putF (D := D) (ci := 4) (v := .ref r1) (ty := .object "JudgedRows$Rows") (C := RX4) (T := TX4) (N := 6) C.1 C.2.1 C.2.2.2.2.1 inX4 tyX4 tyX4_ok nmX4 C.2.2.2.1 C.2.2.2.2.2.1 hP hD hS 0 rfl rfl 0 (by decide) (C.2.2.2.2.1 (.fieldLink RX4 15 "JudgedRows$Parting" "rows" "LJudgedRows$Rows;") (tb_in 233 (by decide +kernel) (by decide +kernel))) (fun _ h9 => h9) rfl hin rfl (by decide +kernel) rfl rfl (Nat.le_of_ble_eq_true rfl) dX4_init_15 (fun H locs hP hD hS => ?_)
  have hP : va_P D vwCl [(h0, .inr (4, [.ref r1, .ref q1, .int 0, .int 0, .int 0, .int 0])), (q1, .inl (cA 0, 961, .inl (fun _ => 0)))] _ := hP
  have hD : va_D A [(h0, .inr (4, [.ref r1, .ref q1, .int 0, .int 0, .int 0, .int 0])), (q1, .inl (cA 0, 961, .inl (fun _ => 0)))] := hD
  refine W.widen (k := 1) (n := 961) (Nat.le_of_ble_eq_true rfl) (Nat.le_of_ble_eq_true rfl) ?_
  exact rv_I C hAe.symm hr (fun i => ([q1] : List Nat).getD i 0) hP hD hS dX4_init_18
set_option maxRecDepth 20000 in
theorem ci_X9 (l : Launch) (D : va_G) (cA : Nat → ClassId) (sz h0 : Nat) (r1 : Nat) (r2 : Nat) : Met l yX9_init (Cond.code yX9_init cX9_init 3 none :: tb) { frames := 1, cells := 0, slots := 0, locals := 12 } (PcI D cA [(h0, .inr (9, [.null, .null, .int 0, .int 0, .int 0]))] [.ref h0, .ref r1, .ref r2] sz) (QI D cA [(h0, .inr (9, [.null, .null, .int 0, .int 0, .int 0]))] (fun a => [(h0, .inr (9, [.ref r1, .ref r2, .int 0, .int 0, .int 0]))]) sz) 0 0 (va_A [(h0, .inr (9, [.null, .null, .int 0, .int 0, .int 0]))] sz) := by
  refine Met.ofW (cc := cX9_init) (maxL := 3) (ret := none) (by decide) rfl ?_
  intro p e s m args below meth c s₁ B hml hv
  have hv0 := hv
  obtain ⟨rfl, hsz, hP, -, hD0, -⟩ := hv
  subst hsz
  have C := CI.of (own := RX9) B hml (fun w h => List.mem_cons_of_mem _ h) rfl hv0
  have hr := B.returns
  have hin : meth.name = "<init>" := (name_of_methodNamed B.named B.method).1
  have hD := hD0.self (sz := s.heap.size)
  have hS : va_S (va_A [(h0, .inr (9, [.null, .null, .int 0, .int 0, .int 0]))] s.heap.size) s.heap s.heap [] := va_S.rf
  generalize hAe : va_A [(h0, .inr (9, [.null, .null, .int 0, .int 0, .int 0]))] s.heap.size = A at C hD hS ⊢
  have hl := lv_entry ([.ref h0, .ref r1, .ref r2]) (n := 3) (Nat.le_of_ble_eq_true rfl)
  rw [lg_entry_eq]
  generalize (lg_sl ([.ref h0, .ref r1, .ref r2]) ++ List.replicate (3 - (lg_sl ([.ref h0, .ref r1, .ref r2])).length) Slot.unset).toArray = ls at hl ⊢
  have hl : lv_has ls 3 [(0, .ref h0), (1, .ref r1), (2, .ref r2)] := hl
  refine lv_aload_n C.1 C.2.1 dX9_init_0 rfl (lv_at hl 0 rfl) ?_
  refine oi_I C (tb_in 260 (by decide +kernel) (by decide +kernel)) hl.1 (Nat.le_of_ble_eq_true rfl) (Nat.le_of_ble_eq_true rfl) dX9_init_1 ?_
  refine lv_aload_n C.1 C.2.1 dX9_init_4 rfl (lv_at hl 0 rfl) ?_
  refine lv_aload_n C.1 C.2.1 dX9_init_5 rfl (lv_at hl 1 rfl) ?_
  refine va_putF (D := D) (ci := 9) (v := .ref r1) (ty := .object "JudgedRows$Rows") (C := RX9) (T := TX9) (N := 5) C.1 C.2.1 C.2.2.2.2.1 inX9 tyX9 tyX9_ok nmX9 C.2.2.2.1 C.2.2.2.2.2.1 hP hD hS 0 rfl rfl 0 (by decide) (C.2.2.2.2.1 (.fieldLink RX9 7 "JudgedRows$Tries" "rows" "LJudgedRows$Rows;") (tb_in 261 (by decide +kernel) (by decide +kernel))) (fun _ h9 => h9) rfl hin rfl (by decide +kernel) rfl rfl (Nat.le_of_ble_eq_true rfl) dX9_init_6 (fun H locs hP hD hS => ?_)
  have hP : va_P D vwCl [(h0, .inr (9, [.ref r1, .null, .int 0, .int 0, .int 0]))] _ := hP
  have hD : va_D A [(h0, .inr (9, [.ref r1, .null, .int 0, .int 0, .int 0]))] := hD
  refine lv_aload_n C.1 C.2.1 dX9_init_9 rfl (lv_at hl 0 rfl) ?_
  refine lv_aload_n C.1 C.2.1 dX9_init_10 rfl (lv_at hl 2 rfl) ?_
  refine va_putF (D := D) (ci := 9) (v := .ref r2) (ty := .object "JudgedRows$Pool") (C := RX9) (T := TX9) (N := 5) C.1 C.2.1 C.2.2.2.2.1 inX9 tyX9 tyX9_ok nmX9 C.2.2.2.1 C.2.2.2.2.2.1 hP hD hS 0 rfl rfl 1 (by decide) (C.2.2.2.2.1 (.fieldLink RX9 13 "JudgedRows$Tries" "pool" "LJudgedRows$Pool;") (tb_in 262 (by decide +kernel) (by decide +kernel))) (fun _ h9 => h9) rfl hin rfl (by decide +kernel) rfl rfl (Nat.le_of_ble_eq_true rfl) dX9_init_11 (fun H locs hP hD hS => ?_)
  have hP : va_P D vwCl [(h0, .inr (9, [.ref r1, .ref r2, .int 0, .int 0, .int 0]))] _ := hP
  have hD : va_D A [(h0, .inr (9, [.ref r1, .ref r2, .int 0, .int 0, .int 0]))] := hD
  refine W.widen (k := 0) (n := 0) (Nat.le_of_ble_eq_true rfl) (Nat.le_of_ble_eq_true rfl) ?_
  exact rv_I C hAe.symm hr (fun i => ([] : List Nat).getD i 0) hP hD hS dX9_init_14
