section WLK
variable {p : Program} {l : Launch} {e : Env} {s : State} {m : MethodId} {args : Array Value} {below : List Frame} {meth : Method} {c : Code} {g : Gx} {A : Nat → Prop}
abbrev rm_X11_forget : Room := { frames := 0, cells := 0, slots := 0, locals := 0 }
set_option maxHeartbeats 4000000 in
set_option maxRecDepth 100000 in
theorem c_X11_forget (l : Launch) (g : Gx) (sz : Nat) (σ : St) {r : Int32} {u : St} (hD : D_X11_forget σ = some (r, u)) : Met l yX11_forget (Cond.code yX11_forget cX11_forget 2 (some .int) :: tb) rm_X11_forget (PcX g [.ref (g.2.2 0)] σ sz) (QiX g (AX g sz) r u) 0 0 (AX g sz) := by
  refine Met.ofW (cc := cX11_forget) (maxL := 2) (ret := some .int) (by decide) rfl ?_
  intro p e s m args below meth c s₁ B hml hv
  have hv0 := hv
  obtain ⟨rfl, hsz, hP, -⟩ := hv
  subst hsz
  have C : CX g (AX g s.heap.size) p s m _ meth c cX11_forget 2 RX11 := CX.of B hml (fun w h => List.mem_cons_of_mem _ h) rfl hv0
  have hr := B.returns
  have hS : va_S (AX g s.heap.size) s.heap s.heap [] := va_S.rf
  have hl := lv_entry ([.ref (g.2.2 0)]) (n := 2) (Nat.le_of_ble_eq_true rfl)
  rw [lg_entry_eq]
  generalize (lg_sl ([.ref (g.2.2 0)]) ++ List.replicate (2 - (lg_sl ([.ref (g.2.2 0)])).length) Slot.unset).toArray = ls at hl ⊢
  have hl : lv_has ls 2 [(0, .ref (g.2.2 0))] := hl
  obtain ⟨H, hH⟩ : ∃ H, H = s.heap := ⟨_, rfl⟩
  have hP : va_P g.1 vwCl (wX g σ) H := by rw [hH]; exact hP
  have hS : va_S (AX g s.heap.size) s.heap H [] := by rw [hH]; exact hS
  refine wH hH ?_
  obtain ⟨locs, hlo⟩ : ∃ locs : List Loc, locs = [] := ⟨_, rfl⟩
  rw [← hlo] at hS
  refine wL hlo ?_
  unfold D_X11_forget at hD
  refine lv_aload_n C.1 C.2.1 dX11_forget_0 rfl (lv_at hl 0 rfl) ?_
  refine gf_X11_42_0 C hP dX11_forget_1 ?_
  refine gf_X11_125_10 C hP dX11_forget_4 ?_
  refine lv_istore_n (lv' := [(1, .int (σ 10 5)), (0, .ref (g.2.2 0))]) C.1 C.2.1 dX11_forget_7 rfl hl (by decide) rfl (fun ls hl => ?_)
  refine lv_aload_n C.1 C.2.1 dX11_forget_8 rfl (lv_at hl 1 rfl) ?_
  refine gf_X11_42_0 C hP dX11_forget_9 ?_
  refine lv_iconst (v := (0 : Int32)) C.1 C.2.1 dX11_forget_12 (by decide) ?_
  refine pf_X11_125_10 C hP hS dX11_forget_13 (fun H locs hP hS => ?_)
  refine lv_iload_n C.1 C.2.1 dX11_forget_16 rfl (lv_at hl 0 rfl) ?_
  cases hD
  exact ri_X C hr hP hS dX11_forget_17
abbrev rm_X3_isGame : Room := { frames := 6, cells := 0, slots := 0, locals := 135 }
set_option maxHeartbeats 4000000 in
set_option maxRecDepth 100000 in
theorem c_X3_isGame (l : Launch) (g : Gx) (sz : Nat) (N : Nat) (σ : St) {r : Int32} (hD : D_X3_isGame N σ = some r) : Met l yX3_isGame (Cond.code yX3_isGame cX3_isGame 2 (some .boolean) :: tb) rm_X3_isGame (PcX g [.ref (g.2.2 1)] σ sz) (QiX g (AX g sz) r σ) 0 0 (AX g sz) := by
  refine Met.ofW (cc := cX3_isGame) (maxL := 2) (ret := some .boolean) (by decide) rfl ?_
  intro p e s m args below meth c s₁ B hml hv
  have hv0 := hv
  obtain ⟨rfl, hsz, hP, -⟩ := hv
  subst hsz
  have C : CX g (AX g s.heap.size) p s m _ meth c cX3_isGame 2 RX3 := CX.of B hml (fun w h => List.mem_cons_of_mem _ h) rfl hv0
  have hr := B.returns
  have hS : va_S (AX g s.heap.size) s.heap s.heap [] := va_S.rf
  have hl := lv_entry ([.ref (g.2.2 1)]) (n := 2) (Nat.le_of_ble_eq_true rfl)
  rw [lg_entry_eq]
  generalize (lg_sl ([.ref (g.2.2 1)]) ++ List.replicate (2 - (lg_sl ([.ref (g.2.2 1)])).length) Slot.unset).toArray = ls at hl ⊢
  have hl : lv_has ls 2 [(0, .ref (g.2.2 1))] := hl
  obtain ⟨H, hH⟩ : ∃ H, H = s.heap := ⟨_, rfl⟩
  have hP : va_P g.1 vwCl (wX g σ) H := by rw [hH]; exact hP
  have hS : va_S (AX g s.heap.size) s.heap H [] := by rw [hH]; exact hS
  refine wH hH ?_
  obtain ⟨locs, hlo⟩ : ∃ locs : List Loc, locs = [] := ⟨_, rfl⟩
  rw [← hlo] at hS
  refine wL hlo ?_
  unfold D_X3_isGame at hD
  refine lv_aload_n C.1 C.2.1 dX3_isGame_0 rfl (lv_at hl 0 rfl) ?_
  refine lv_aload_n C.1 C.2.1 dX3_isGame_1 rfl (lv_at hl 0 rfl) ?_
  refine gf_X3_15_1 C hP dX3_isGame_2 ?_
  obtain ⟨r1, hd1, hD⟩ := bp_some hD
  refine kVi_X (As := [.int (σ 1 1)]) (rest := []) (ci := 3) (q0 := 1) C (c_X3_kindsEnd l g H.size N σ (σ 1 1) hd1) kw_X3_23 ⟨rfl, rfl⟩ ⟨Nat.le_of_ble_eq_true rfl, Nat.le_of_ble_eq_true rfl⟩ kv_X3_kindsEnd rfl rfl rfl hl.1 (Nat.le_of_ble_eq_true rfl) ⟨Nat.zero_le _, Nat.zero_le _⟩ dX3_isGame_5 hP hS rfl (fun H locs hP hS => ?_)
  refine lv_istore_n (lv' := [(1, .int r1), (0, .ref (g.2.2 1))]) C.1 C.2.1 dX3_isGame_8 rfl hl (by decide) rfl (fun ls hl => ?_)
  refine lv_iload_n C.1 C.2.1 dX3_isGame_9 rfl (lv_at hl 0 rfl) ?_
  refine lv_iconst (v := (-1 : Int32)) C.1 C.2.1 dX3_isGame_10 (by decide) ?_
  refine lv_icmp_eq (tgt := 44) C.1 C.2.1 dX3_isGame_11 (by decide) (fun c2 => ?_) (fun c2 => ?_)
  · have hD := b_t c2 hD
    refine lv_iconst (v := (0 : Int32)) C.1 C.2.1 dX3_isGame_44 (by decide) ?_
    cases hD
    exact rz_X C hr (Or.inl rfl) hP hS dX3_isGame_45
  · have hD := b_f c2 hD
    refine lv_aload_n C.1 C.2.1 dX3_isGame_14 rfl (lv_at hl 1 rfl) ?_
    refine gf_X3_15_1 C hP dX3_isGame_15 ?_
    refine lv_iload_n C.1 C.2.1 dX3_isGame_18 rfl (lv_at hl 0 rfl) ?_
    refine lv_iconst (v := (1 : Int32)) C.1 C.2.1 dX3_isGame_19 (by decide) ?_
    refine lv_iadd C.1 C.2.1 dX3_isGame_20 ?_
    refine lv_aload_n C.1 C.2.1 dX3_isGame_21 rfl (lv_at hl 1 rfl) ?_
    obtain ⟨r3, hd3, hD⟩ := bp_some hD
    refine kVi_X (As := []) (rest := [.int (r1 + (1 : Int32)), .int (σ 1 1)]) (ci := 3) (q0 := 1) C (c_X3_pegs l g H.size σ hd3) kw_X3_27 ⟨rfl, rfl⟩ ⟨Nat.le_of_ble_eq_true rfl, Nat.le_of_ble_eq_true rfl⟩ kv_X3_pegs rfl rfl rfl hl.1 (Nat.le_of_ble_eq_true rfl) ⟨Nat.zero_le _, Nat.zero_le _⟩ dX3_isGame_22 hP hS rfl (fun H locs hP hS => ?_)
    refine lv_iadd C.1 C.2.1 dX3_isGame_25 ?_
    refine lv_icmp_ne (tgt := 44) C.1 C.2.1 dX3_isGame_26 (by decide) (fun c4 => ?_) (fun c4 => ?_)
    · have hD := b_f c4 hD
      refine lv_iconst (v := (0 : Int32)) C.1 C.2.1 dX3_isGame_44 (by decide) ?_
      cases hD
      exact rz_X C hr (Or.inl rfl) hP hS dX3_isGame_45
    · have hD := b_t c4 hD
      refine lv_aload_n C.1 C.2.1 dX3_isGame_29 rfl (lv_at hl 1 rfl) ?_
      obtain ⟨r5, hd5, hD⟩ := bp_some hD
      refine kVi_X (As := []) (rest := []) (ci := 3) (q0 := 1) C (c_X3_firstFault l g H.size N σ hd5) kw_X3_31 ⟨rfl, rfl⟩ ⟨Nat.le_of_ble_eq_true rfl, Nat.le_of_ble_eq_true rfl⟩ kv_X3_firstFault rfl rfl rfl hl.1 (Nat.le_of_ble_eq_true rfl) ⟨Nat.zero_le _, Nat.zero_le _⟩ dX3_isGame_30 hP hS rfl (fun H locs hP hS => ?_)
      refine lv_aload_n C.1 C.2.1 dX3_isGame_33 rfl (lv_at hl 1 rfl) ?_
      refine gf_X3_15_1 C hP dX3_isGame_34 ?_
      refine lv_icmp_ne (tgt := 44) C.1 C.2.1 dX3_isGame_37 (by decide) (fun c6 => ?_) (fun c6 => ?_)
      · have hD := b_f c6 hD
        refine lv_iconst (v := (0 : Int32)) C.1 C.2.1 dX3_isGame_44 (by decide) ?_
        cases hD
        exact rz_X C hr (Or.inl rfl) hP hS dX3_isGame_45
      · have hD := b_t c6 hD
        refine lv_iconst (v := (1 : Int32)) C.1 C.2.1 dX3_isGame_40 (by decide) ?_
        refine lv_goto (tgt := 45) C.1 C.2.1 dX3_isGame_41 (by decide) ?_
        cases hD
        exact rz_X C hr (Or.inr rfl) hP hS dX3_isGame_45
abbrev rm_X6_colour : Room := { frames := 0, cells := 0, slots := 0, locals := 0 }
set_option maxHeartbeats 4000000 in
set_option maxRecDepth 100000 in
theorem w_L_X6_colour_20 (C : CX g A p s m args meth c cX6_colour 5 RX6) (hr : meth.sig.returnType = some .int) (N : Nat) (σ : St) {r : Int32} (x2 : Int32) : ∀ (n : Nat) (x3 : Int32) (x4 : Int32) (H : Heap) (locs : List Loc) (ls : Array Slot), lv_has ls 5 [(0, .ref (g.2.2 20)), (2, .int x2), (3, .int x3), (4, .int x4)] → va_P g.1 vwCl (wX g σ) H → va_S A s.heap H locs → L_X6_colour_20 N σ x2 n x3 x4 = some r → W p l e rm_X6_colour s m args below meth c H locs 0 0 (MQ below (QiX g A r σ) args s 0 0 A) (F0 m 20 ls []) := by
  intro n
  induction n with
  | zero =>
    intro x3 x4 H locs ls hl hP hS hD
    rw [L_X6_colour_20] at hD
    cases hD
  | succ n ih =>
    intro x3 x4 H locs ls hl hP hS hD
    rw [L_X6_colour_20] at hD
    refine lv_iload C.1 C.2.1 dX6_colour_20 (lv_at hl 3 rfl) ?_
    refine lv_iload_n C.1 C.2.1 dX6_colour_22 rfl (lv_at hl 1 rfl) ?_
    refine lv_icmp_le (tgt := 39) C.1 C.2.1 dX6_colour_23 (by decide) (fun c2 => ?_) (fun c2 => ?_)
    · have hD := b_t c2 hD
      refine lv_iload_n C.1 C.2.1 dX6_colour_39 rfl (lv_at hl 2 rfl) ?_
      refine lv_aload_n C.1 C.2.1 dX6_colour_40 rfl (lv_at hl 0 rfl) ?_
      refine gf_X6_25_20 C hP dX6_colour_41 ?_
      obtain ⟨hz3, hD⟩ := gz_some hD
      refine lv_irem C.1 C.2.1 dX6_colour_44 hz3 ?_
      cases hD
      exact ri_X C hr hP hS dX6_colour_45
    · have hD := b_f c2 hD
      refine lv_iload_n C.1 C.2.1 dX6_colour_26 rfl (lv_at hl 2 rfl) ?_
      refine lv_aload_n C.1 C.2.1 dX6_colour_27 rfl (lv_at hl 0 rfl) ?_
      refine gf_X6_25_20 C hP dX6_colour_28 ?_
      obtain ⟨hz4, hD⟩ := gz_some hD
      refine lv_idiv C.1 C.2.1 dX6_colour_31 hz4 ?_
      refine lv_istore_n (lv' := [(3, .int (x3 / (σ 20 1))), (0, .ref (g.2.2 20)), (2, .int x2), (4, .int x4)]) C.1 C.2.1 dX6_colour_32 rfl hl (by decide) rfl (fun ls hl => ?_)
      refine lv_iinc (v := x4 + (-1 : Int32)) (lv' := [(4, .int (x4 + (-1 : Int32))), (3, .int (x3 / (σ 20 1))), (0, .ref (g.2.2 20)), (2, .int x2)]) C.1 C.2.1 dX6_colour_33 hl (k := 3) rfl rfl (by decide) rfl (fun ls hl => ?_)
      refine lv_goto (tgt := 20) C.1 C.2.1 dX6_colour_36 (by decide) ?_
      exact ih (x3 / (σ 20 1)) (x4 + (-1 : Int32)) H locs ls (lv_sub hl [2, 3, 1, 0] rfl) hP hS hD
set_option maxHeartbeats 4000000 in
set_option maxRecDepth 100000 in
theorem c_X6_colour (l : Launch) (g : Gx) (sz : Nat) (N : Nat) (σ : St) (x1 : Int32) (x2 : Int32) {r : Int32} (hD : D_X6_colour N σ x1 x2 = some r) : Met l yX6_colour (Cond.code yX6_colour cX6_colour 5 (some .int) :: tb) rm_X6_colour (PcX g [.ref (g.2.2 20), .int x1, .int x2] σ sz) (QiX g (AX g sz) r σ) 0 0 (AX g sz) := by
  refine Met.ofW (cc := cX6_colour) (maxL := 5) (ret := some .int) (by decide) rfl ?_
  intro p e s m args below meth c s₁ B hml hv
  have hv0 := hv
  obtain ⟨rfl, hsz, hP, -⟩ := hv
  subst hsz
  have C : CX g (AX g s.heap.size) p s m _ meth c cX6_colour 5 RX6 := CX.of B hml (fun w h => List.mem_cons_of_mem _ h) rfl hv0
  have hr := B.returns
  have hS : va_S (AX g s.heap.size) s.heap s.heap [] := va_S.rf
  have hl := lv_entry ([.ref (g.2.2 20), .int x1, .int x2]) (n := 5) (Nat.le_of_ble_eq_true rfl)
  rw [lg_entry_eq]
  generalize (lg_sl ([.ref (g.2.2 20), .int x1, .int x2]) ++ List.replicate (5 - (lg_sl ([.ref (g.2.2 20), .int x1, .int x2])).length) Slot.unset).toArray = ls at hl ⊢
  have hl : lv_has ls 5 [(0, .ref (g.2.2 20)), (1, .int x1), (2, .int x2)] := hl
  obtain ⟨H, hH⟩ : ∃ H, H = s.heap := ⟨_, rfl⟩
  have hP : va_P g.1 vwCl (wX g σ) H := by rw [hH]; exact hP
  have hS : va_S (AX g s.heap.size) s.heap H [] := by rw [hH]; exact hS
  refine wH hH ?_
  obtain ⟨locs, hlo⟩ : ∃ locs : List Loc, locs = [] := ⟨_, rfl⟩
  rw [← hlo] at hS
  refine wL hlo ?_
  unfold D_X6_colour at hD
  refine lv_aload_n C.1 C.2.1 dX6_colour_0 rfl (lv_at hl 0 rfl) ?_
  refine gf_X6_25_20 C hP dX6_colour_1 ?_
  refine lv_iconst (v := (1 : Int32)) C.1 C.2.1 dX6_colour_4 (by decide) ?_
  refine lv_icmp_ge (tgt := 10) C.1 C.2.1 dX6_colour_5 (by decide) (fun c1 => ?_) (fun c1 => ?_)
  · have hD := b_t c1 hD
    refine lv_iload_n C.1 C.2.1 dX6_colour_10 rfl (lv_at hl 1 rfl) ?_
    refine lv_istore_n (lv' := [(3, .int x1), (0, .ref (g.2.2 20)), (1, .int x1), (2, .int x2)]) C.1 C.2.1 dX6_colour_11 rfl hl (by decide) rfl (fun ls hl => ?_)
    refine lv_aload_n C.1 C.2.1 dX6_colour_12 rfl (lv_at hl 1 rfl) ?_
    refine gf_X6_21_20 C hP dX6_colour_13 ?_
    refine lv_iconst (v := (1 : Int32)) C.1 C.2.1 dX6_colour_16 (by decide) ?_
    refine lv_isub C.1 C.2.1 dX6_colour_17 ?_
    refine lv_istore (lv' := [(4, .int ((σ 20 0) - (1 : Int32))), (3, .int x1), (0, .ref (g.2.2 20)), (1, .int x1), (2, .int x2)]) C.1 C.2.1 dX6_colour_18 hl (by decide) rfl (fun ls hl => ?_)
    exact w_L_X6_colour_20 C hr N σ x2 N x1 ((σ 20 0) - (1 : Int32)) H locs ls (lv_sub hl [2, 4, 1, 0] rfl) hP hS hD
  · have hD := b_f c1 hD
    refine lv_iconst (v := (-1 : Int32)) C.1 C.2.1 dX6_colour_8 (by decide) ?_
    cases hD
    exact ri_X C hr hP hS dX6_colour_9
abbrev rm_X6_withOneMore : Room := { frames := 0, cells := 0, slots := 0, locals := 0 }
set_option maxHeartbeats 4000000 in
set_option maxRecDepth 100000 in
theorem w_L_X6_withOneMore_8 (C : CX g A p s m args meth c cX6_withOneMore 4 RX6) (hr : meth.sig.returnType = some .int) (N : Nat) (σ : St) {r : Int32} (x0 : Int32) : ∀ (n : Nat) (x2 : Int32) (x3 : Int32) (H : Heap) (locs : List Loc) (ls : Array Slot), lv_has ls 4 [(0, .int x0), (2, .int x2), (3, .int x3)] → va_P g.1 vwCl (wX g σ) H → va_S A s.heap H locs → L_X6_withOneMore_8 N x0 n x2 x3 = some r → W p l e rm_X6_withOneMore s m args below meth c H locs 0 0 (MQ below (QiX g A r σ) args s 0 0 A) (F0 m 8 ls []) := by
  intro n
  induction n with
  | zero =>
    intro x2 x3 H locs ls hl hP hS hD
    rw [L_X6_withOneMore_8] at hD
    cases hD
  | succ n ih =>
    intro x2 x3 H locs ls hl hP hS hD
    rw [L_X6_withOneMore_8] at hD
    refine lv_iload_n C.1 C.2.1 dX6_withOneMore_8 rfl (lv_at hl 2 rfl) ?_
    refine lv_iconst (v := (3 : Int32)) C.1 C.2.1 dX6_withOneMore_9 (by decide) ?_
    refine lv_icmp_ge (tgt := 29) C.1 C.2.1 dX6_withOneMore_10 (by decide) (fun c1 => ?_) (fun c1 => ?_)
    · have hD := b_t c1 hD
      refine lv_iload_n C.1 C.2.1 dX6_withOneMore_29 rfl (lv_at hl 0 rfl) ?_
      refine lv_iload_n C.1 C.2.1 dX6_withOneMore_30 rfl (lv_at hl 1 rfl) ?_
      refine lv_ior C.1 C.2.1 dX6_withOneMore_31 ?_
      cases hD
      exact ri_X C hr hP hS dX6_withOneMore_32
    · have hD := b_f c1 hD
      refine lv_iload_n C.1 C.2.1 dX6_withOneMore_13 rfl (lv_at hl 0 rfl) ?_
      refine lv_iload_n C.1 C.2.1 dX6_withOneMore_14 rfl (lv_at hl 1 rfl) ?_
      refine lv_iand C.1 C.2.1 dX6_withOneMore_15 ?_
      refine lv_if_eq (tgt := 29) C.1 C.2.1 dX6_withOneMore_16 (by decide) (fun c2 => ?_) (fun c2 => ?_)
      · have hD := b_t c2 hD
        refine lv_iload_n C.1 C.2.1 dX6_withOneMore_29 rfl (lv_at hl 0 rfl) ?_
        refine lv_iload_n C.1 C.2.1 dX6_withOneMore_30 rfl (lv_at hl 1 rfl) ?_
        refine lv_ior C.1 C.2.1 dX6_withOneMore_31 ?_
        cases hD
        exact ri_X C hr hP hS dX6_withOneMore_32
      · have hD := b_f c2 hD
        refine lv_iload_n C.1 C.2.1 dX6_withOneMore_19 rfl (lv_at hl 1 rfl) ?_
        refine lv_iconst (v := (1 : Int32)) C.1 C.2.1 dX6_withOneMore_20 (by decide) ?_
        refine lv_ishl C.1 C.2.1 dX6_withOneMore_21 ?_
        refine lv_istore_n (lv' := [(2, .int (x2 <<< ((1 : Int32) &&& 31))), (0, .int x0), (3, .int x3)]) C.1 C.2.1 dX6_withOneMore_22 rfl hl (by decide) rfl (fun ls hl => ?_)
        refine lv_iinc (v := x3 + (1 : Int32)) (lv' := [(3, .int (x3 + (1 : Int32))), (2, .int (x2 <<< ((1 : Int32) &&& 31))), (0, .int x0)]) C.1 C.2.1 dX6_withOneMore_23 hl (k := 2) rfl rfl (by decide) rfl (fun ls hl => ?_)
        refine lv_goto (tgt := 8) C.1 C.2.1 dX6_withOneMore_26 (by decide) ?_
        exact ih (x2 <<< ((1 : Int32) &&& 31)) (x3 + (1 : Int32)) H locs ls (lv_sub hl [2, 1, 0] rfl) hP hS hD
set_option maxHeartbeats 4000000 in
set_option maxRecDepth 100000 in
theorem c_X6_withOneMore (l : Launch) (g : Gx) (sz : Nat) (N : Nat) (σ : St) (x0 : Int32) (x1 : Int32) {r : Int32} (hD : D_X6_withOneMore N x0 x1 = some r) : Met l yX6_withOneMore (Cond.code yX6_withOneMore cX6_withOneMore 4 (some .int) :: tb) rm_X6_withOneMore (PcX g [.int x0, .int x1] σ sz) (QiX g (AX g sz) r σ) 0 0 (AX g sz) := by
  refine Met.ofW (cc := cX6_withOneMore) (maxL := 4) (ret := some .int) (by decide) rfl ?_
  intro p e s m args below meth c s₁ B hml hv
  have hv0 := hv
  obtain ⟨rfl, hsz, hP, -⟩ := hv
  subst hsz
  have C : CX g (AX g s.heap.size) p s m _ meth c cX6_withOneMore 4 RX6 := CX.of B hml (fun w h => List.mem_cons_of_mem _ h) rfl hv0
  have hr := B.returns
  have hS : va_S (AX g s.heap.size) s.heap s.heap [] := va_S.rf
  have hl := lv_entry ([.int x0, .int x1]) (n := 4) (Nat.le_of_ble_eq_true rfl)
  rw [lg_entry_eq]
  generalize (lg_sl ([.int x0, .int x1]) ++ List.replicate (4 - (lg_sl ([.int x0, .int x1])).length) Slot.unset).toArray = ls at hl ⊢
  have hl : lv_has ls 4 [(0, .int x0), (1, .int x1)] := hl
  obtain ⟨H, hH⟩ : ∃ H, H = s.heap := ⟨_, rfl⟩
  have hP : va_P g.1 vwCl (wX g σ) H := by rw [hH]; exact hP
  have hS : va_S (AX g s.heap.size) s.heap H [] := by rw [hH]; exact hS
  refine wH hH ?_
  obtain ⟨locs, hlo⟩ : ∃ locs : List Loc, locs = [] := ⟨_, rfl⟩
  rw [← hlo] at hS
  refine wL hlo ?_
  unfold D_X6_withOneMore at hD
  refine lv_iconst (v := (1 : Int32)) C.1 C.2.1 dX6_withOneMore_0 (by decide) ?_
  refine lv_iload_n C.1 C.2.1 dX6_withOneMore_1 rfl (lv_at hl 1 rfl) ?_
  refine lv_iconst (v := (3 : Int32)) C.1 C.2.1 dX6_withOneMore_2 (by decide) ?_
  refine lv_imul C.1 C.2.1 dX6_withOneMore_3 ?_
  refine lv_ishl C.1 C.2.1 dX6_withOneMore_4 ?_
  refine lv_istore_n (lv' := [(2, .int ((1 : Int32) <<< ((x1 * (3 : Int32)) &&& 31))), (0, .int x0), (1, .int x1)]) C.1 C.2.1 dX6_withOneMore_5 rfl hl (by decide) rfl (fun ls hl => ?_)
  refine lv_iconst (v := (0 : Int32)) C.1 C.2.1 dX6_withOneMore_6 (by decide) ?_
  refine lv_istore_n (lv' := [(3, .int (0 : Int32)), (2, .int ((1 : Int32) <<< ((x1 * (3 : Int32)) &&& 31))), (0, .int x0), (1, .int x1)]) C.1 C.2.1 dX6_withOneMore_7 rfl hl (by decide) rfl (fun ls hl => ?_)
  exact w_L_X6_withOneMore_8 C hr N σ x0 N ((1 : Int32) <<< ((x1 * (3 : Int32)) &&& 31)) (0 : Int32) H locs ls (lv_sub hl [2, 1, 0] rfl) hP hS hD
abbrev rm_X6_layRow : Room := { frames := 1, cells := 0, slots := 0, locals := 24 }
set_option maxHeartbeats 4000000 in
set_option maxRecDepth 100000 in
theorem w_L_X6_layRow_10 (C : CX g A p s m args meth c cX6_layRow 7 RX6) (hr : meth.sig.returnType = none) (N : Nat) {u : St} (x1 : Int32) : ∀ (n : Nat) (x2 : Int32) (x3 : Int32) (x4 : Int32) (x5 : Int32) (σ : St) (H : Heap) (locs : List Loc) (ls : Array Slot), lv_has ls 7 [(0, .ref (g.2.2 20)), (1, .int x1), (2, .int x2), (3, .int x3), (4, .int x4), (5, .int x5)] → va_P g.1 vwCl (wX g σ) H → va_S A s.heap H locs → L_X6_layRow_10 N x1 n x2 x3 x4 x5 σ = some u → W p l e rm_X6_layRow s m args below meth c H locs 0 0 (MQ below (QvX g A u) args s 0 0 A) (F0 m 10 ls []) := by
  intro n
  induction n with
  | zero =>
    intro x2 x3 x4 x5 σ H locs ls hl hP hS hD
    rw [L_X6_layRow_10] at hD
    cases hD
  | succ n ih =>
    intro x2 x3 x4 x5 σ H locs ls hl hP hS hD
    rw [L_X6_layRow_10] at hD
    refine lv_iload C.1 C.2.1 dX6_layRow_10 (lv_at hl 5 rfl) ?_
    refine lv_aload_n C.1 C.2.1 dX6_layRow_12 rfl (lv_at hl 0 rfl) ?_
    refine gf_X6_21_20 C hP dX6_layRow_13 ?_
    refine lv_icmp_ge (tgt := 76) C.1 C.2.1 dX6_layRow_16 (by decide) (fun c1 => ?_) (fun c1 => ?_)
    · have hD := b_t c1 hD
      refine lv_aload_n C.1 C.2.1 dX6_layRow_76 rfl (lv_at hl 0 rfl) ?_
      refine gf_X6_9_20 C hP dX6_layRow_77 ?_
      refine lv_iload_n C.1 C.2.1 dX6_layRow_80 rfl (lv_at hl 1 rfl) ?_
      refine lv_iload_n C.1 C.2.1 dX6_layRow_81 rfl (lv_at hl 2 rfl) ?_
      obtain ⟨hi2, hD⟩ := gi_some hD
      refine isX C hP hS 21 rfl hi2 dX6_layRow_82 st_21 (fun H locs hP hS => ?_)
      refine lv_aload_n C.1 C.2.1 dX6_layRow_83 rfl (lv_at hl 0 rfl) ?_
      refine gf_X6_15_20 C hP dX6_layRow_84 ?_
      refine lv_iload_n C.1 C.2.1 dX6_layRow_87 rfl (lv_at hl 1 rfl) ?_
      refine lv_iload_n C.1 C.2.1 dX6_layRow_88 rfl (lv_at hl 3 rfl) ?_
      obtain ⟨hi3, hD⟩ := gi_some hD
      refine isX C hP hS 22 rfl hi3 dX6_layRow_89 st_22 (fun H locs hP hS => ?_)
      refine lv_aload_n C.1 C.2.1 dX6_layRow_90 rfl (lv_at hl 0 rfl) ?_
      refine gf_X6_18_20 C hP dX6_layRow_91 ?_
      refine lv_iload_n C.1 C.2.1 dX6_layRow_94 rfl (lv_at hl 1 rfl) ?_
      refine lv_iload C.1 C.2.1 dX6_layRow_95 (lv_at hl 4 rfl) ?_
      obtain ⟨hi4, hD⟩ := gi_some hD
      refine isX C hP hS 23 rfl hi4 dX6_layRow_97 st_23 (fun H locs hP hS => ?_)
      cases hD
      exact rv_X C hr hP hS dX6_layRow_98
    · have hD := b_f c1 hD
      refine lv_aload_n C.1 C.2.1 dX6_layRow_19 rfl (lv_at hl 0 rfl) ?_
      refine lv_iload_n C.1 C.2.1 dX6_layRow_20 rfl (lv_at hl 1 rfl) ?_
      refine lv_iload C.1 C.2.1 dX6_layRow_21 (lv_at hl 5 rfl) ?_
      obtain ⟨r5, hd5, hD⟩ := bp_some hD
      refine kVi_X (As := [.int x1, .int x5]) (rest := []) (ci := 6) (q0 := 20) C (c_X6_colour l g H.size N σ x1 x5 hd5) kw_X6_35 ⟨rfl, rfl⟩ ⟨Nat.le_of_ble_eq_true rfl, Nat.le_of_ble_eq_true rfl⟩ kv_X6_colour rfl rfl rfl hl.1 (Nat.le_of_ble_eq_true rfl) ⟨Nat.zero_le _, Nat.zero_le _⟩ dX6_layRow_23 hP hS rfl (fun H locs hP hS => ?_)
      refine lv_istore (lv' := [(6, .int r5), (0, .ref (g.2.2 20)), (1, .int x1), (2, .int x2), (3, .int x3), (4, .int x4), (5, .int x5)]) C.1 C.2.1 dX6_layRow_26 hl (by decide) rfl (fun ls hl => ?_)
      refine lv_iload_n C.1 C.2.1 dX6_layRow_28 rfl (lv_at hl 3 rfl) ?_
      refine lv_iconst (v := (1 : Int32)) C.1 C.2.1 dX6_layRow_29 (by decide) ?_
      refine lv_iload C.1 C.2.1 dX6_layRow_30 (lv_at hl 6 rfl) ?_
      refine lv_bipush (v := (6 : Int32)) C.1 C.2.1 dX6_layRow_32 (by decide) ?_
      refine lv_imul C.1 C.2.1 dX6_layRow_34 ?_
      refine lv_iload C.1 C.2.1 dX6_layRow_35 (lv_at hl 0 rfl) ?_
      refine lv_iadd C.1 C.2.1 dX6_layRow_37 ?_
      refine lv_ishl C.1 C.2.1 dX6_layRow_38 ?_
      refine lv_ior C.1 C.2.1 dX6_layRow_39 ?_
      refine lv_istore_n (lv' := [(2, .int (x2 ||| ((1 : Int32) <<< (((x5 * (6 : Int32)) + r5) &&& 31)))), (6, .int r5), (0, .ref (g.2.2 20)), (1, .int x1), (3, .int x3), (4, .int x4), (5, .int x5)]) C.1 C.2.1 dX6_layRow_40 rfl hl (by decide) rfl (fun ls hl => ?_)
      refine lv_iload_n C.1 C.2.1 dX6_layRow_41 rfl (lv_at hl 4 rfl) ?_
      refine lv_iconst (v := (1 : Int32)) C.1 C.2.1 dX6_layRow_42 (by decide) ?_
      refine lv_aload_n C.1 C.2.1 dX6_layRow_43 rfl (lv_at hl 2 rfl) ?_
      refine gf_X6_21_20 C hP dX6_layRow_44 ?_
      refine lv_iconst (v := (1 : Int32)) C.1 C.2.1 dX6_layRow_47 (by decide) ?_
      refine lv_isub C.1 C.2.1 dX6_layRow_48 ?_
      refine lv_iload C.1 C.2.1 dX6_layRow_49 (lv_at hl 6 rfl) ?_
      refine lv_isub C.1 C.2.1 dX6_layRow_51 ?_
      refine lv_bipush (v := (6 : Int32)) C.1 C.2.1 dX6_layRow_52 (by decide) ?_
      refine lv_imul C.1 C.2.1 dX6_layRow_54 ?_
      refine lv_iload C.1 C.2.1 dX6_layRow_55 (lv_at hl 1 rfl) ?_
      refine lv_iadd C.1 C.2.1 dX6_layRow_57 ?_
      refine lv_ishl C.1 C.2.1 dX6_layRow_58 ?_
      refine lv_ior C.1 C.2.1 dX6_layRow_59 ?_
      refine lv_istore_n (lv' := [(3, .int (x3 ||| ((1 : Int32) <<< ((((((σ 20 0) - (1 : Int32)) - x5) * (6 : Int32)) + r5) &&& 31)))), (2, .int (x2 ||| ((1 : Int32) <<< (((x5 * (6 : Int32)) + r5) &&& 31)))), (6, .int r5), (0, .ref (g.2.2 20)), (1, .int x1), (4, .int x4), (5, .int x5)]) C.1 C.2.1 dX6_layRow_60 rfl hl (by decide) rfl (fun ls hl => ?_)
      refine lv_iload C.1 C.2.1 dX6_layRow_61 (lv_at hl 5 rfl) ?_
      refine lv_iload C.1 C.2.1 dX6_layRow_63 (lv_at hl 2 rfl) ?_
      obtain ⟨r6, hd6, hD⟩ := bp_some hD
      refine kSi_X (As := [.int x4, .int r5]) (rest := []) C (c_X6_withOneMore l g H.size N σ x4 r5 hd6) kw_X6_39 ⟨rfl, rfl⟩ ⟨Nat.le_of_ble_eq_true rfl, Nat.le_of_ble_eq_true rfl⟩ ks_X6_withOneMore rfl hl.1 (Nat.le_of_ble_eq_true rfl) ⟨Nat.zero_le _, Nat.zero_le _⟩ dX6_layRow_65 hP hS rfl (fun H locs hP hS => ?_)
      refine lv_istore (lv' := [(4, .int r6), (3, .int (x3 ||| ((1 : Int32) <<< ((((((σ 20 0) - (1 : Int32)) - x5) * (6 : Int32)) + r5) &&& 31)))), (2, .int (x2 ||| ((1 : Int32) <<< (((x5 * (6 : Int32)) + r5) &&& 31)))), (6, .int r5), (0, .ref (g.2.2 20)), (1, .int x1), (5, .int x5)]) C.1 C.2.1 dX6_layRow_68 hl (by decide) rfl (fun ls hl => ?_)
      refine lv_iinc (v := x5 + (1 : Int32)) (lv' := [(5, .int (x5 + (1 : Int32))), (4, .int r6), (3, .int (x3 ||| ((1 : Int32) <<< ((((((σ 20 0) - (1 : Int32)) - x5) * (6 : Int32)) + r5) &&& 31)))), (2, .int (x2 ||| ((1 : Int32) <<< (((x5 * (6 : Int32)) + r5) &&& 31)))), (6, .int r5), (0, .ref (g.2.2 20)), (1, .int x1)]) C.1 C.2.1 dX6_layRow_70 hl (k := 6) rfl rfl (by decide) rfl (fun ls hl => ?_)
      refine lv_goto (tgt := 10) C.1 C.2.1 dX6_layRow_73 (by decide) ?_
      exact ih (x2 ||| ((1 : Int32) <<< (((x5 * (6 : Int32)) + r5) &&& 31))) (x3 ||| ((1 : Int32) <<< ((((((σ 20 0) - (1 : Int32)) - x5) * (6 : Int32)) + r5) &&& 31))) r6 (x5 + (1 : Int32)) σ H locs ls (lv_sub hl [5, 6, 3, 2, 1, 0] rfl) hP hS hD
set_option maxHeartbeats 4000000 in
set_option maxRecDepth 100000 in
theorem c_X6_layRow (l : Launch) (g : Gx) (sz : Nat) (N : Nat) (σ : St) (x1 : Int32) {u : St} (hD : D_X6_layRow N σ x1 = some u) : Met l yX6_layRow (Cond.code yX6_layRow cX6_layRow 7 (none) :: tb) rm_X6_layRow (PcX g [.ref (g.2.2 20), .int x1] σ sz) (QvX g (AX g sz) u) 0 0 (AX g sz) := by
  refine Met.ofW (cc := cX6_layRow) (maxL := 7) (ret := none) (by decide) rfl ?_
  intro p e s m args below meth c s₁ B hml hv
  have hv0 := hv
  obtain ⟨rfl, hsz, hP, -⟩ := hv
  subst hsz
  have C : CX g (AX g s.heap.size) p s m _ meth c cX6_layRow 7 RX6 := CX.of B hml (fun w h => List.mem_cons_of_mem _ h) rfl hv0
  have hr := B.returns
  have hS : va_S (AX g s.heap.size) s.heap s.heap [] := va_S.rf
  have hl := lv_entry ([.ref (g.2.2 20), .int x1]) (n := 7) (Nat.le_of_ble_eq_true rfl)
  rw [lg_entry_eq]
  generalize (lg_sl ([.ref (g.2.2 20), .int x1]) ++ List.replicate (7 - (lg_sl ([.ref (g.2.2 20), .int x1])).length) Slot.unset).toArray = ls at hl ⊢
  have hl : lv_has ls 7 [(0, .ref (g.2.2 20)), (1, .int x1)] := hl
  obtain ⟨H, hH⟩ : ∃ H, H = s.heap := ⟨_, rfl⟩
  have hP : va_P g.1 vwCl (wX g σ) H := by rw [hH]; exact hP
  have hS : va_S (AX g s.heap.size) s.heap H [] := by rw [hH]; exact hS
  refine wH hH ?_
  obtain ⟨locs, hlo⟩ : ∃ locs : List Loc, locs = [] := ⟨_, rfl⟩
  rw [← hlo] at hS
  refine wL hlo ?_
  unfold D_X6_layRow at hD
  refine lv_iconst (v := (0 : Int32)) C.1 C.2.1 dX6_layRow_0 (by decide) ?_
  refine lv_istore_n (lv' := [(2, .int (0 : Int32)), (0, .ref (g.2.2 20)), (1, .int x1)]) C.1 C.2.1 dX6_layRow_1 rfl hl (by decide) rfl (fun ls hl => ?_)
  refine lv_iconst (v := (0 : Int32)) C.1 C.2.1 dX6_layRow_2 (by decide) ?_
  refine lv_istore_n (lv' := [(3, .int (0 : Int32)), (2, .int (0 : Int32)), (0, .ref (g.2.2 20)), (1, .int x1)]) C.1 C.2.1 dX6_layRow_3 rfl hl (by decide) rfl (fun ls hl => ?_)
  refine lv_iconst (v := (0 : Int32)) C.1 C.2.1 dX6_layRow_4 (by decide) ?_
  refine lv_istore (lv' := [(4, .int (0 : Int32)), (3, .int (0 : Int32)), (2, .int (0 : Int32)), (0, .ref (g.2.2 20)), (1, .int x1)]) C.1 C.2.1 dX6_layRow_5 hl (by decide) rfl (fun ls hl => ?_)
  refine lv_iconst (v := (0 : Int32)) C.1 C.2.1 dX6_layRow_7 (by decide) ?_
  refine lv_istore (lv' := [(5, .int (0 : Int32)), (4, .int (0 : Int32)), (3, .int (0 : Int32)), (2, .int (0 : Int32)), (0, .ref (g.2.2 20)), (1, .int x1)]) C.1 C.2.1 dX6_layRow_8 hl (by decide) rfl (fun ls hl => ?_)
  exact w_L_X6_layRow_10 C hr N x1 N (0 : Int32) (0 : Int32) (0 : Int32) (0 : Int32) σ H locs ls (lv_sub hl [4, 5, 3, 2, 1, 0] rfl) hP hS hD
abbrev rm_X6_lay : Room := { frames := 2, cells := 0, slots := 0, locals := 50 }
set_option maxHeartbeats 4000000 in
set_option maxRecDepth 100000 in
theorem w_L_X6_lay_40 (C : CX g A p s m args meth c cX6_lay 4 RX6) (hr : meth.sig.returnType = none) (N : Nat) {u : St} : ∀ (n : Nat) (x3 : Int32) (σ : St) (H : Heap) (locs : List Loc) (ls : Array Slot), lv_has ls 4 [(0, .ref (g.2.2 20)), (3, .int x3)] → va_P g.1 vwCl (wX g σ) H → va_S A s.heap H locs → L_X6_lay_40 N n x3 σ = some u → W p l e rm_X6_lay s m args below meth c H locs 0 0 (MQ below (QvX g A u) args s 0 0 A) (F0 m 40 ls []) := by
  intro n
  induction n with
  | zero =>
    intro x3 σ H locs ls hl hP hS hD
    rw [L_X6_lay_40] at hD
    cases hD
  | succ n ih =>
    intro x3 σ H locs ls hl hP hS hD
    rw [L_X6_lay_40] at hD
    refine lv_iload_n C.1 C.2.1 dX6_lay_40 rfl (lv_at hl 1 rfl) ?_
    refine lv_aload_n C.1 C.2.1 dX6_lay_41 rfl (lv_at hl 0 rfl) ?_
    refine gf_X6_28_20 C hP dX6_lay_42 ?_
    refine lv_icmp_ge (tgt := 59) C.1 C.2.1 dX6_lay_45 (by decide) (fun c2 => ?_) (fun c2 => ?_)
    · have hD := b_t c2 hD
      cases hD
      exact rv_X C hr hP hS dX6_lay_59
    · have hD := b_f c2 hD
      refine lv_aload_n C.1 C.2.1 dX6_lay_48 rfl (lv_at hl 0 rfl) ?_
      refine lv_iload_n C.1 C.2.1 dX6_lay_49 rfl (lv_at hl 1 rfl) ?_
      obtain ⟨s3, hd3, hD⟩ := bp_some hD
      refine kVv_X (As := [.int x3]) (rest := []) (ci := 6) (q0 := 20) C (c_X6_layRow l g H.size N σ x3 hd3) kw_X6_31 ⟨rfl, rfl⟩ ⟨Nat.le_of_ble_eq_true rfl, Nat.le_of_ble_eq_true rfl⟩ kv_X6_layRow rfl rfl rfl hl.1 (Nat.le_of_ble_eq_true rfl) ⟨Nat.zero_le _, Nat.zero_le _⟩ dX6_lay_50 hP hS rfl (fun H locs hP hS => ?_)
      refine lv_iinc (v := x3 + (1 : Int32)) (lv' := [(3, .int (x3 + (1 : Int32))), (0, .ref (g.2.2 20))]) C.1 C.2.1 dX6_lay_53 hl (k := 1) rfl rfl (by decide) rfl (fun ls hl => ?_)
      refine lv_goto (tgt := 40) C.1 C.2.1 dX6_lay_56 (by decide) ?_
      exact ih (x3 + (1 : Int32)) s3 H locs ls (lv_sub hl [1, 0] rfl) hP hS hD
set_option maxHeartbeats 4000000 in
set_option maxRecDepth 100000 in
theorem w_L_X6_lay_17 (C : CX g A p s m args meth c cX6_lay 4 RX6) (hr : meth.sig.returnType = none) (N : Nat) {u : St} (x1 : Int32) (x2 : Int32) : ∀ (n : Nat) (x3 : Int32) (σ : St) (H : Heap) (locs : List Loc) (ls : Array Slot), lv_has ls 4 [(0, .ref (g.2.2 20)), (1, .int x1), (2, .int x2), (3, .int x3)] → va_P g.1 vwCl (wX g σ) H → va_S A s.heap H locs → L_X6_lay_17 N x1 x2 n x3 σ = some u → W p l e rm_X6_lay s m args below meth c H locs 0 0 (MQ below (QvX g A u) args s 0 0 A) (F0 m 17 ls []) := by
  intro n
  induction n with
  | zero =>
    intro x3 σ H locs ls hl hP hS hD
    rw [L_X6_lay_17] at hD
    cases hD
  | succ n ih =>
    intro x3 σ H locs ls hl hP hS hD
    rw [L_X6_lay_17] at hD
    refine lv_iload_n C.1 C.2.1 dX6_lay_17 rfl (lv_at hl 3 rfl) ?_
    refine lv_iload_n C.1 C.2.1 dX6_lay_18 rfl (lv_at hl 1 rfl) ?_
    refine lv_icmp_ge (tgt := 38) C.1 C.2.1 dX6_lay_19 (by decide) (fun c1 => ?_) (fun c1 => ?_)
    · have hD := b_t c1 hD
      refine lv_iconst (v := (0 : Int32)) C.1 C.2.1 dX6_lay_38 (by decide) ?_
      refine lv_istore_n (lv' := [(3, .int (0 : Int32)), (0, .ref (g.2.2 20)), (1, .int x1), (2, .int x2)]) C.1 C.2.1 dX6_lay_39 rfl hl (by decide) rfl (fun ls hl => ?_)
      exact w_L_X6_lay_40 C hr N N (0 : Int32) σ H locs ls (lv_sub hl [1, 0] rfl) hP hS hD
    · have hD := b_f c1 hD
      refine lv_aload_n C.1 C.2.1 dX6_lay_22 rfl (lv_at hl 0 rfl) ?_
      refine lv_dup C.1 C.2.1 dX6_lay_23 rfl ?_
      refine gf_X6_28_20 C hP dX6_lay_24 ?_
      refine lv_iload_n C.1 C.2.1 dX6_lay_27 rfl (lv_at hl 2 rfl) ?_
      refine lv_imul C.1 C.2.1 dX6_lay_28 ?_
      refine pf_X6_28_20 C hP hS dX6_lay_29 (fun H locs hP hS => ?_)
      refine lv_iinc (v := x3 + (1 : Int32)) (lv' := [(3, .int (x3 + (1 : Int32))), (0, .ref (g.2.2 20)), (1, .int x1), (2, .int x2)]) C.1 C.2.1 dX6_lay_32 hl (k := 3) rfl rfl (by decide) rfl (fun ls hl => ?_)
      refine lv_goto (tgt := 17) C.1 C.2.1 dX6_lay_35 (by decide) ?_
      exact ih (x3 + (1 : Int32)) (pt σ 20 2 ((σ 20 2) * x2)) H locs ls (lv_sub hl [1, 2, 3, 0] rfl) hP hS hD
set_option maxHeartbeats 4000000 in
set_option maxRecDepth 100000 in
theorem c_X6_lay (l : Launch) (g : Gx) (sz : Nat) (N : Nat) (σ : St) (x1 : Int32) (x2 : Int32) {u : St} (hD : D_X6_lay N σ x1 x2 = some u) : Met l yX6_lay (Cond.code yX6_lay cX6_lay 4 (none) :: tb) rm_X6_lay (PcX g [.ref (g.2.2 20), .int x1, .int x2] σ sz) (QvX g (AX g sz) u) 0 0 (AX g sz) := by
  refine Met.ofW (cc := cX6_lay) (maxL := 4) (ret := none) (by decide) rfl ?_
  intro p e s m args below meth c s₁ B hml hv
  have hv0 := hv
  obtain ⟨rfl, hsz, hP, -⟩ := hv
  subst hsz
  have C : CX g (AX g s.heap.size) p s m _ meth c cX6_lay 4 RX6 := CX.of B hml (fun w h => List.mem_cons_of_mem _ h) rfl hv0
  have hr := B.returns
  have hS : va_S (AX g s.heap.size) s.heap s.heap [] := va_S.rf
  have hl := lv_entry ([.ref (g.2.2 20), .int x1, .int x2]) (n := 4) (Nat.le_of_ble_eq_true rfl)
  rw [lg_entry_eq]
  generalize (lg_sl ([.ref (g.2.2 20), .int x1, .int x2]) ++ List.replicate (4 - (lg_sl ([.ref (g.2.2 20), .int x1, .int x2])).length) Slot.unset).toArray = ls at hl ⊢
  have hl : lv_has ls 4 [(0, .ref (g.2.2 20)), (1, .int x1), (2, .int x2)] := hl
  obtain ⟨H, hH⟩ : ∃ H, H = s.heap := ⟨_, rfl⟩
  have hP : va_P g.1 vwCl (wX g σ) H := by rw [hH]; exact hP
  have hS : va_S (AX g s.heap.size) s.heap H [] := by rw [hH]; exact hS
  refine wH hH ?_
  obtain ⟨locs, hlo⟩ : ∃ locs : List Loc, locs = [] := ⟨_, rfl⟩
  rw [← hlo] at hS
  refine wL hlo ?_
  unfold D_X6_lay at hD
  refine lv_aload_n C.1 C.2.1 dX6_lay_0 rfl (lv_at hl 0 rfl) ?_
  refine lv_iload_n C.1 C.2.1 dX6_lay_1 rfl (lv_at hl 1 rfl) ?_
  refine pf_X6_21_20 C hP hS dX6_lay_2 (fun H locs hP hS => ?_)
  refine lv_aload_n C.1 C.2.1 dX6_lay_5 rfl (lv_at hl 0 rfl) ?_
  refine lv_iload_n C.1 C.2.1 dX6_lay_6 rfl (lv_at hl 2 rfl) ?_
  refine pf_X6_25_20 C hP hS dX6_lay_7 (fun H locs hP hS => ?_)
  refine lv_aload_n C.1 C.2.1 dX6_lay_10 rfl (lv_at hl 0 rfl) ?_
  refine lv_iconst (v := (1 : Int32)) C.1 C.2.1 dX6_lay_11 (by decide) ?_
  refine pf_X6_28_20 C hP hS dX6_lay_12 (fun H locs hP hS => ?_)
  refine lv_iconst (v := (0 : Int32)) C.1 C.2.1 dX6_lay_15 (by decide) ?_
  refine lv_istore_n (lv' := [(3, .int (0 : Int32)), (0, .ref (g.2.2 20)), (1, .int x1), (2, .int x2)]) C.1 C.2.1 dX6_lay_16 rfl hl (by decide) rfl (fun ls hl => ?_)
  exact w_L_X6_lay_17 C hr N x1 x2 N (0 : Int32) (pt (pt (pt σ 20 0 x1) 20 1 x2) 20 2 (1 : Int32)) H locs ls (lv_sub hl [1, 2, 3, 0] rfl) hP hS hD
abbrev rm_X3_judgesWritten : Room := { frames := 1, cells := 0, slots := 0, locals := 22 }
set_option maxHeartbeats 4000000 in
set_option maxRecDepth 100000 in
theorem c_X3_judgesWritten (l : Launch) (g : Gx) (sz : Nat) (N : Nat) (σ : St) {r : Int32} (hD : D_X3_judgesWritten N σ = some r) : Met l yX3_judgesWritten (Cond.code yX3_judgesWritten cX3_judgesWritten 1 (some .int) :: tb) rm_X3_judgesWritten (PcX g [.ref (g.2.2 1)] σ sz) (QiX g (AX g sz) r σ) 0 0 (AX g sz) := by
  refine Met.ofW (cc := cX3_judgesWritten) (maxL := 1) (ret := some .int) (by decide) rfl ?_
  intro p e s m args below meth c s₁ B hml hv
  have hv0 := hv
  obtain ⟨rfl, hsz, hP, -⟩ := hv
  subst hsz
  have C : CX g (AX g s.heap.size) p s m _ meth c cX3_judgesWritten 1 RX3 := CX.of B hml (fun w h => List.mem_cons_of_mem _ h) rfl hv0
  have hr := B.returns
  have hS : va_S (AX g s.heap.size) s.heap s.heap [] := va_S.rf
  have hl := lv_entry ([.ref (g.2.2 1)]) (n := 1) (Nat.le_of_ble_eq_true rfl)
  rw [lg_entry_eq]
  generalize (lg_sl ([.ref (g.2.2 1)]) ++ List.replicate (1 - (lg_sl ([.ref (g.2.2 1)])).length) Slot.unset).toArray = ls at hl ⊢
  have hl : lv_has ls 1 [(0, .ref (g.2.2 1))] := hl
  obtain ⟨H, hH⟩ : ∃ H, H = s.heap := ⟨_, rfl⟩
  have hP : va_P g.1 vwCl (wX g σ) H := by rw [hH]; exact hP
  have hS : va_S (AX g s.heap.size) s.heap H [] := by rw [hH]; exact hS
  refine wH hH ?_
  obtain ⟨locs, hlo⟩ : ∃ locs : List Loc, locs = [] := ⟨_, rfl⟩
  rw [← hlo] at hS
  refine wL hlo ?_
  unfold D_X3_judgesWritten at hD
  refine lv_aload_n C.1 C.2.1 dX3_judgesWritten_0 rfl (lv_at hl 0 rfl) ?_
  refine lv_aload_n C.1 C.2.1 dX3_judgesWritten_1 rfl (lv_at hl 0 rfl) ?_
  refine gf_X3_15_1 C hP dX3_judgesWritten_2 ?_
  obtain ⟨r1, hd1, hD⟩ := bp_some hD
  refine kVi_X (As := [.int (σ 1 1)]) (rest := []) (ci := 3) (q0 := 1) C (c_X3_kindsEnd l g H.size N σ (σ 1 1) hd1) kw_X3_23 ⟨rfl, rfl⟩ ⟨Nat.le_of_ble_eq_true rfl, Nat.le_of_ble_eq_true rfl⟩ kv_X3_kindsEnd rfl rfl rfl hl.1 (Nat.le_of_ble_eq_true rfl) ⟨Nat.zero_le _, Nat.zero_le _⟩ dX3_judgesWritten_5 hP hS rfl (fun H locs hP hS => ?_)
  refine lv_iconst (v := (3 : Int32)) C.1 C.2.1 dX3_judgesWritten_8 (by decide) ?_
  refine lv_isub C.1 C.2.1 dX3_judgesWritten_9 ?_
  cases hD
  exact ri_X C hr hP hS dX3_judgesWritten_10
abbrev rm_X3_kindWritten : Room := { frames := 4, cells := 0, slots := 0, locals := 91 }
set_option maxHeartbeats 4000000 in
set_option maxRecDepth 100000 in
theorem c_X3_kindWritten (l : Launch) (g : Gx) (sz : Nat) (N : Nat) (σ : St) (x1 : Int32) {r : Int32} (hD : D_X3_kindWritten N σ x1 = some r) : Met l yX3_kindWritten (Cond.code yX3_kindWritten cX3_kindWritten 2 (some .int) :: tb) rm_X3_kindWritten (PcX g [.ref (g.2.2 1), .int x1] σ sz) (QiX g (AX g sz) r σ) 0 0 (AX g sz) := by
  refine Met.ofW (cc := cX3_kindWritten) (maxL := 2) (ret := some .int) (by decide) rfl ?_
  intro p e s m args below meth c s₁ B hml hv
  have hv0 := hv
  obtain ⟨rfl, hsz, hP, -⟩ := hv
  subst hsz
  have C : CX g (AX g s.heap.size) p s m _ meth c cX3_kindWritten 2 RX3 := CX.of B hml (fun w h => List.mem_cons_of_mem _ h) rfl hv0
  have hr := B.returns
  have hS : va_S (AX g s.heap.size) s.heap s.heap [] := va_S.rf
  have hl := lv_entry ([.ref (g.2.2 1), .int x1]) (n := 2) (Nat.le_of_ble_eq_true rfl)
  rw [lg_entry_eq]
  generalize (lg_sl ([.ref (g.2.2 1), .int x1]) ++ List.replicate (2 - (lg_sl ([.ref (g.2.2 1), .int x1])).length) Slot.unset).toArray = ls at hl ⊢
  have hl : lv_has ls 2 [(0, .ref (g.2.2 1)), (1, .int x1)] := hl
  obtain ⟨H, hH⟩ : ∃ H, H = s.heap := ⟨_, rfl⟩
  have hP : va_P g.1 vwCl (wX g σ) H := by rw [hH]; exact hP
  have hS : va_S (AX g s.heap.size) s.heap H [] := by rw [hH]; exact hS
  refine wH hH ?_
  obtain ⟨locs, hlo⟩ : ∃ locs : List Loc, locs = [] := ⟨_, rfl⟩
  rw [← hlo] at hS
  refine wL hlo ?_
  unfold D_X3_kindWritten at hD
  refine va_ldcS (q := g.2.2 50) (own := RX3) (tx := "jstwc") (index := 37) C.1 C.2.1 C.2.2.2.1 C.2.2.2.2.2.2.2.2.2.2.1 dX3_kindWritten_0 ?_
  refine lv_aload_n C.1 C.2.1 dX3_kindWritten_2 rfl (lv_at hl 0 rfl) ?_
  refine gf_X3_9_1 C hP dX3_kindWritten_3 ?_
  refine lv_iconst (v := (3 : Int32)) C.1 C.2.1 dX3_kindWritten_6 (by decide) ?_
  refine lv_iload_n C.1 C.2.1 dX3_kindWritten_7 rfl (lv_at hl 1 rfl) ?_
  refine lv_iadd C.1 C.2.1 dX3_kindWritten_8 ?_
  obtain ⟨hi1, hD⟩ := gi_some hD
  refine iaX C hP 2 rfl hi1 dX3_kindWritten_9 ?_
  refine lv_i2c C.1 C.2.1 dX3_kindWritten_10 rfl ?_
  obtain ⟨r2, hd2, hD⟩ := bp_some hD
  refine kVi_S (As := [.int (((σ 2 (((3 : Int32) + x1).toNatClampNeg)).toUInt32 % 65536).toInt32)]) (rest := []) C (c_J0_indexOf_0f7a4 l g H.size N σ (((σ 2 (((3 : Int32) + x1).toNatClampNeg)).toUInt32 % 65536).toInt32) hd2) kw_X3_39 ⟨rfl, rfl⟩ ⟨Nat.le_of_ble_eq_true rfl, Nat.le_of_ble_eq_true rfl⟩ kv_J0_indexOf_0f7a4 (recS C hS) rfl hl.1 (Nat.le_of_ble_eq_true rfl) ⟨Nat.zero_le _, Nat.zero_le _⟩ dX3_kindWritten_11 hP hS rfl (fun H locs hP hS => ?_)
  cases hD
  exact ri_X C hr hP hS dX3_kindWritten_14
abbrev rm_X3_rowWritten : Room := { frames := 1, cells := 0, slots := 0, locals := 22 }
set_option maxHeartbeats 4000000 in
set_option maxRecDepth 100000 in
theorem w_L_X3_rowWritten_13 (C : CX g A p s m args meth c cX3_rowWritten 3 RX3) (hr : meth.sig.returnType = some .int) (N : Nat) (σ : St) {r : Int32} : ∀ (n : Nat) (x1 : Int32) (x2 : Int32) (H : Heap) (locs : List Loc) (ls : Array Slot), lv_has ls 3 [(0, .ref (g.2.2 1)), (1, .int x1), (2, .int x2)] → va_P g.1 vwCl (wX g σ) H → va_S A s.heap H locs → L_X3_rowWritten_13 N σ n x1 x2 = some r → W p l e rm_X3_rowWritten s m args below meth c H locs 0 0 (MQ below (QiX g A r σ) args s 0 0 A) (F0 m 13 ls []) := by
  intro n
  induction n with
  | zero =>
    intro x1 x2 H locs ls hl hP hS hD
    rw [L_X3_rowWritten_13] at hD
    cases hD
  | succ n ih =>
    intro x1 x2 H locs ls hl hP hS hD
    rw [L_X3_rowWritten_13] at hD
    refine lv_iload_n C.1 C.2.1 dX3_rowWritten_13 rfl (lv_at hl 2 rfl) ?_
    refine lv_aload_n C.1 C.2.1 dX3_rowWritten_14 rfl (lv_at hl 0 rfl) ?_
    refine gf_X3_15_1 C hP dX3_rowWritten_15 ?_
    refine lv_icmp_ge (tgt := 44) C.1 C.2.1 dX3_rowWritten_18 (by decide) (fun c2 => ?_) (fun c2 => ?_)
    · have hD := b_t c2 hD
      refine lv_iload_n C.1 C.2.1 dX3_rowWritten_44 rfl (lv_at hl 1 rfl) ?_
      cases hD
      exact ri_X C hr hP hS dX3_rowWritten_45
    · have hD := b_f c2 hD
      refine lv_iload_n C.1 C.2.1 dX3_rowWritten_21 rfl (lv_at hl 1 rfl) ?_
      refine lv_aload_n C.1 C.2.1 dX3_rowWritten_22 rfl (lv_at hl 0 rfl) ?_
      obtain ⟨r3, hd3, hD⟩ := bp_some hD
      refine kVi_X (As := []) (rest := [.int x1]) (ci := 3) (q0 := 1) C (c_X3_colours l g H.size σ hd3) kw_X3_34 ⟨rfl, rfl⟩ ⟨Nat.le_of_ble_eq_true rfl, Nat.le_of_ble_eq_true rfl⟩ kv_X3_colours rfl rfl rfl hl.1 (Nat.le_of_ble_eq_true rfl) ⟨Nat.zero_le _, Nat.zero_le _⟩ dX3_rowWritten_23 hP hS rfl (fun H locs hP hS => ?_)
      refine lv_imul C.1 C.2.1 dX3_rowWritten_26 ?_
      refine lv_aload_n C.1 C.2.1 dX3_rowWritten_27 rfl (lv_at hl 0 rfl) ?_
      refine gf_X3_9_1 C hP dX3_rowWritten_28 ?_
      refine lv_iload_n C.1 C.2.1 dX3_rowWritten_31 rfl (lv_at hl 2 rfl) ?_
      obtain ⟨hi4, hD⟩ := gi_some hD
      refine iaX C hP 2 rfl hi4 dX3_rowWritten_32 ?_
      refine lv_iadd C.1 C.2.1 dX3_rowWritten_33 ?_
      refine lv_bipush (v := (97 : Int32)) C.1 C.2.1 dX3_rowWritten_34 (by decide) ?_
      refine lv_isub C.1 C.2.1 dX3_rowWritten_36 ?_
      refine lv_istore_n (lv' := [(1, .int (((x1 * r3) + (σ 2 x2.toNatClampNeg)) - (97 : Int32))), (0, .ref (g.2.2 1)), (2, .int x2)]) C.1 C.2.1 dX3_rowWritten_37 rfl hl (by decide) rfl (fun ls hl => ?_)
      refine lv_iinc (v := x2 + (1 : Int32)) (lv' := [(2, .int (x2 + (1 : Int32))), (1, .int (((x1 * r3) + (σ 2 x2.toNatClampNeg)) - (97 : Int32))), (0, .ref (g.2.2 1))]) C.1 C.2.1 dX3_rowWritten_38 hl (k := 2) rfl rfl (by decide) rfl (fun ls hl => ?_)
      refine lv_goto (tgt := 13) C.1 C.2.1 dX3_rowWritten_41 (by decide) ?_
      exact ih (((x1 * r3) + (σ 2 x2.toNatClampNeg)) - (97 : Int32)) (x2 + (1 : Int32)) H locs ls (lv_sub hl [2, 1, 0] rfl) hP hS hD
set_option maxHeartbeats 4000000 in
set_option maxRecDepth 100000 in
theorem c_X3_rowWritten (l : Launch) (g : Gx) (sz : Nat) (N : Nat) (σ : St) {r : Int32} (hD : D_X3_rowWritten N σ = some r) : Met l yX3_rowWritten (Cond.code yX3_rowWritten cX3_rowWritten 3 (some .int) :: tb) rm_X3_rowWritten (PcX g [.ref (g.2.2 1)] σ sz) (QiX g (AX g sz) r σ) 0 0 (AX g sz) := by
  refine Met.ofW (cc := cX3_rowWritten) (maxL := 3) (ret := some .int) (by decide) rfl ?_
  intro p e s m args below meth c s₁ B hml hv
  have hv0 := hv
  obtain ⟨rfl, hsz, hP, -⟩ := hv
  subst hsz
  have C : CX g (AX g s.heap.size) p s m _ meth c cX3_rowWritten 3 RX3 := CX.of B hml (fun w h => List.mem_cons_of_mem _ h) rfl hv0
  have hr := B.returns
  have hS : va_S (AX g s.heap.size) s.heap s.heap [] := va_S.rf
  have hl := lv_entry ([.ref (g.2.2 1)]) (n := 3) (Nat.le_of_ble_eq_true rfl)
  rw [lg_entry_eq]
  generalize (lg_sl ([.ref (g.2.2 1)]) ++ List.replicate (3 - (lg_sl ([.ref (g.2.2 1)])).length) Slot.unset).toArray = ls at hl ⊢
  have hl : lv_has ls 3 [(0, .ref (g.2.2 1))] := hl
  obtain ⟨H, hH⟩ : ∃ H, H = s.heap := ⟨_, rfl⟩
  have hP : va_P g.1 vwCl (wX g σ) H := by rw [hH]; exact hP
  have hS : va_S (AX g s.heap.size) s.heap H [] := by rw [hH]; exact hS
  refine wH hH ?_
  obtain ⟨locs, hlo⟩ : ∃ locs : List Loc, locs = [] := ⟨_, rfl⟩
  rw [← hlo] at hS
  refine wL hlo ?_
  unfold D_X3_rowWritten at hD
  refine lv_iconst (v := (0 : Int32)) C.1 C.2.1 dX3_rowWritten_0 (by decide) ?_
  refine lv_istore_n (lv' := [(1, .int (0 : Int32)), (0, .ref (g.2.2 1))]) C.1 C.2.1 dX3_rowWritten_1 rfl hl (by decide) rfl (fun ls hl => ?_)
  refine lv_aload_n C.1 C.2.1 dX3_rowWritten_2 rfl (lv_at hl 1 rfl) ?_
  refine lv_aload_n C.1 C.2.1 dX3_rowWritten_3 rfl (lv_at hl 1 rfl) ?_
  refine gf_X3_15_1 C hP dX3_rowWritten_4 ?_
  obtain ⟨r1, hd1, hD⟩ := bp_some hD
  refine kVi_X (As := [.int (σ 1 1)]) (rest := []) (ci := 3) (q0 := 1) C (c_X3_kindsEnd l g H.size N σ (σ 1 1) hd1) kw_X3_23 ⟨rfl, rfl⟩ ⟨Nat.le_of_ble_eq_true rfl, Nat.le_of_ble_eq_true rfl⟩ kv_X3_kindsEnd rfl rfl rfl hl.1 (Nat.le_of_ble_eq_true rfl) ⟨Nat.zero_le _, Nat.zero_le _⟩ dX3_rowWritten_7 hP hS rfl (fun H locs hP hS => ?_)
  refine lv_iconst (v := (1 : Int32)) C.1 C.2.1 dX3_rowWritten_10 (by decide) ?_
  refine lv_iadd C.1 C.2.1 dX3_rowWritten_11 ?_
  refine lv_istore_n (lv' := [(2, .int (r1 + (1 : Int32))), (1, .int (0 : Int32)), (0, .ref (g.2.2 1))]) C.1 C.2.1 dX3_rowWritten_12 rfl hl (by decide) rfl (fun ls hl => ?_)
  exact w_L_X3_rowWritten_13 C hr N σ N (0 : Int32) (r1 + (1 : Int32)) H locs ls (lv_sub hl [2, 1, 0] rfl) hP hS hD
abbrev rm_X11_game : Room := { frames := 7, cells := 0, slots := 0, locals := 156 }
set_option maxHeartbeats 4000000 in
set_option maxRecDepth 100000 in
theorem w_L_X11_game_47 (C : CX g A p s m args meth c cX11_game 2 RX11) (hr : meth.sig.returnType = some .int) (N : Nat) {r : Int32} {u : St} : ∀ (n : Nat) (x1 : Int32) (σ : St) (H : Heap) (locs : List Loc) (ls : Array Slot), lv_has ls 2 [(0, .ref (g.2.2 0)), (1, .int x1)] → va_P g.1 vwCl (wX g σ) H → va_S A s.heap H locs → L_X11_game_47 N n x1 σ = some (r, u) → W p l e rm_X11_game s m args below meth c H locs 0 0 (MQ below (QiX g A r u) args s 0 0 A) (F0 m 47 ls []) := by
  intro n
  induction n with
  | zero =>
    intro x1 σ H locs ls hl hP hS hD
    rw [L_X11_game_47] at hD
    cases hD
  | succ n ih =>
    intro x1 σ H locs ls hl hP hS hD
    rw [L_X11_game_47] at hD
    refine lv_iload_n C.1 C.2.1 dX11_game_47 rfl (lv_at hl 1 rfl) ?_
    refine lv_aload_n C.1 C.2.1 dX11_game_48 rfl (lv_at hl 0 rfl) ?_
    refine gf_X11_110_0 C hP dX11_game_49 ?_
    refine lv_icmp_ge (tgt := 78) C.1 C.2.1 dX11_game_52 (by decide) (fun c7 => ?_) (fun c7 => ?_)
    · have hD := b_t c7 hD
      refine lv_aload_n C.1 C.2.1 dX11_game_78 rfl (lv_at hl 0 rfl) ?_
      refine gf_X11_42_0 C hP dX11_game_79 ?_
      refine lv_aload_n C.1 C.2.1 dX11_game_82 rfl (lv_at hl 0 rfl) ?_
      refine gf_X11_12_0 C hP dX11_game_83 ?_
      obtain ⟨r8, hd8, hD⟩ := bp_some hD
      refine kVi_X (As := []) (rest := [.ref (g.2.2 10)]) (ci := 3) (q0 := 1) C (c_X3_rowWritten l g H.size N σ hd8) kw_X11_119 ⟨rfl, rfl⟩ ⟨Nat.le_of_ble_eq_true rfl, Nat.le_of_ble_eq_true rfl⟩ kv_X3_rowWritten rfl rfl rfl hl.1 (Nat.le_of_ble_eq_true rfl) ⟨Nat.zero_le _, Nat.zero_le _⟩ dX11_game_86 hP hS rfl (fun H locs hP hS => ?_)
      refine pf_X11_122_10 C hP hS dX11_game_89 (fun H locs hP hS => ?_)
      refine lv_aload_n C.1 C.2.1 dX11_game_92 rfl (lv_at hl 0 rfl) ?_
      refine gf_X11_42_0 C hP dX11_game_93 ?_
      refine lv_iconst (v := (0 : Int32)) C.1 C.2.1 dX11_game_96 (by decide) ?_
      refine pf_X11_125_10 C hP hS dX11_game_97 (fun H locs hP hS => ?_)
      refine lv_aload_n C.1 C.2.1 dX11_game_100 rfl (lv_at hl 0 rfl) ?_
      refine lv_iconst (v := (0 : Int32)) C.1 C.2.1 dX11_game_101 (by decide) ?_
      refine pf_X11_126_0 C hP hS (by decide) (by decide) dX11_game_102 (fun H locs hP hS => ?_)
      refine lv_aload_n C.1 C.2.1 dX11_game_105 rfl (lv_at hl 0 rfl) ?_
      refine lv_dup C.1 C.2.1 dX11_game_106 rfl ?_
      refine gf_X11_130_0 C hP dX11_game_107 ?_
      refine w_rd (show (pt (pt (pt σ 10 4 r8) 10 5 (0 : Int32)) 0 10 (0 : Int32)) 0 11 = σ 0 11 from rfl) ?_
      refine lv_iconst (v := (1 : Int32)) C.1 C.2.1 dX11_game_110 (by decide) ?_
      refine lv_iadd C.1 C.2.1 dX11_game_111 ?_
      refine pf_X11_130_0 C hP hS dX11_game_112 (fun H locs hP hS => ?_)
      refine lv_aload_n C.1 C.2.1 dX11_game_115 rfl (lv_at hl 0 rfl) ?_
      refine gf_X11_12_0 C hP dX11_game_116 ?_
      refine lv_iconst (v := (0 : Int32)) C.1 C.2.1 dX11_game_119 (by decide) ?_
      refine pf_X11_81_1 C hP hS dX11_game_120 (fun H locs hP hS => ?_)
      refine lv_aload_n C.1 C.2.1 dX11_game_123 rfl (lv_at hl 0 rfl) ?_
      refine gf_X11_57_0 C hP dX11_game_124 ?_
      refine gf_X11_133_20 C hP dX11_game_127 ?_
      refine w_rd (show (pt (pt (pt (pt (pt σ 10 4 r8) 10 5 (0 : Int32)) 0 10 (0 : Int32)) 0 11 ((σ 0 11) + (1 : Int32))) 1 1 (0 : Int32)) 20 2 = σ 20 2 from rfl) ?_
      cases hD
      exact ri_X C hr hP hS dX11_game_130
    · have hD := b_f c7 hD
      refine lv_aload_n C.1 C.2.1 dX11_game_55 rfl (lv_at hl 0 rfl) ?_
      refine gf_X11_42_0 C hP dX11_game_56 ?_
      refine gf_X11_113_10 C hP dX11_game_59 ?_
      refine lv_iload_n C.1 C.2.1 dX11_game_62 rfl (lv_at hl 1 rfl) ?_
      refine lv_aload_n C.1 C.2.1 dX11_game_63 rfl (lv_at hl 0 rfl) ?_
      refine gf_X11_12_0 C hP dX11_game_64 ?_
      refine lv_iload_n C.1 C.2.1 dX11_game_67 rfl (lv_at hl 1 rfl) ?_
      obtain ⟨r9, hd9, hD⟩ := bp_some hD
      refine kVi_X (As := [.int x1]) (rest := [.int x1, .ref (g.2.2 11)]) (ci := 3) (q0 := 1) C (c_X3_kindWritten l g H.size N σ x1 hd9) kw_X11_115 ⟨rfl, rfl⟩ ⟨Nat.le_of_ble_eq_true rfl, Nat.le_of_ble_eq_true rfl⟩ kv_X3_kindWritten rfl rfl rfl hl.1 (Nat.le_of_ble_eq_true rfl) ⟨Nat.zero_le _, Nat.zero_le _⟩ dX11_game_68 hP hS rfl (fun H locs hP hS => ?_)
      obtain ⟨hi10, hD⟩ := gi_some hD
      refine isX C hP hS 11 rfl hi10 dX11_game_71 st_11 (fun H locs hP hS => ?_)
      refine lv_iinc (v := x1 + (1 : Int32)) (lv' := [(1, .int (x1 + (1 : Int32))), (0, .ref (g.2.2 0))]) C.1 C.2.1 dX11_game_72 hl (k := 1) rfl rfl (by decide) rfl (fun ls hl => ?_)
      refine lv_goto (tgt := 47) C.1 C.2.1 dX11_game_75 (by decide) ?_
      exact ih (x1 + (1 : Int32)) (pt σ 11 x1.toNatClampNeg r9) H locs ls (lv_sub hl [1, 0] rfl) hP hS hD
set_option maxHeartbeats 4000000 in
set_option maxRecDepth 100000 in
theorem c_X11_game (l : Launch) (g : Gx) (sz : Nat) (N : Nat) (σ : St) {r : Int32} {u : St} (hD : D_X11_game N σ = some (r, u)) : Met l yX11_game (Cond.code yX11_game cX11_game 2 (some .int) :: tb) rm_X11_game (PcX g [.ref (g.2.2 0)] σ sz) (QiX g (AX g sz) r u) 0 0 (AX g sz) := by
  refine Met.ofW (cc := cX11_game) (maxL := 2) (ret := some .int) (by decide) rfl ?_
  intro p e s m args below meth c s₁ B hml hv
  have hv0 := hv
  obtain ⟨rfl, hsz, hP, -⟩ := hv
  subst hsz
  have C : CX g (AX g s.heap.size) p s m _ meth c cX11_game 2 RX11 := CX.of B hml (fun w h => List.mem_cons_of_mem _ h) rfl hv0
  have hr := B.returns
  have hS : va_S (AX g s.heap.size) s.heap s.heap [] := va_S.rf
  have hl := lv_entry ([.ref (g.2.2 0)]) (n := 2) (Nat.le_of_ble_eq_true rfl)
  rw [lg_entry_eq]
  generalize (lg_sl ([.ref (g.2.2 0)]) ++ List.replicate (2 - (lg_sl ([.ref (g.2.2 0)])).length) Slot.unset).toArray = ls at hl ⊢
  have hl : lv_has ls 2 [(0, .ref (g.2.2 0))] := hl
  obtain ⟨H, hH⟩ : ∃ H, H = s.heap := ⟨_, rfl⟩
  have hP : va_P g.1 vwCl (wX g σ) H := by rw [hH]; exact hP
  have hS : va_S (AX g s.heap.size) s.heap H [] := by rw [hH]; exact hS
  refine wH hH ?_
  obtain ⟨locs, hlo⟩ : ∃ locs : List Loc, locs = [] := ⟨_, rfl⟩
  rw [← hlo] at hS
  refine wL hlo ?_
  unfold D_X11_game at hD
  refine lv_aload_n C.1 C.2.1 dX11_game_0 rfl (lv_at hl 0 rfl) ?_
  refine gf_X11_12_0 C hP dX11_game_1 ?_
  obtain ⟨r1, hd1, hD⟩ := bp_some hD
  refine kVi_X (As := []) (rest := []) (ci := 3) (q0 := 1) C (c_X3_isGame l g H.size N σ hd1) kw_X11_93 ⟨rfl, rfl⟩ ⟨Nat.le_of_ble_eq_true rfl, Nat.le_of_ble_eq_true rfl⟩ kv_X3_isGame rfl rfl rfl hl.1 (Nat.le_of_ble_eq_true rfl) ⟨Nat.zero_le _, Nat.zero_le _⟩ dX11_game_4 hP hS rfl (fun H locs hP hS => ?_)
  refine lv_if_ne (tgt := 13) C.1 C.2.1 dX11_game_7 (by decide) (fun c2 => ?_) (fun c2 => ?_)
  · have hD := b_f c2 hD
    refine lv_aload_n C.1 C.2.1 dX11_game_13 rfl (lv_at hl 0 rfl) ?_
    refine gf_X11_57_0 C hP dX11_game_14 ?_
    refine lv_aload_n C.1 C.2.1 dX11_game_17 rfl (lv_at hl 0 rfl) ?_
    refine gf_X11_12_0 C hP dX11_game_18 ?_
    obtain ⟨r3, hd3, hD⟩ := bp_some hD
    refine kVi_X (As := []) (rest := [.ref (g.2.2 20)]) (ci := 3) (q0 := 1) C (c_X3_pegs l g H.size σ hd3) kw_X11_97 ⟨rfl, rfl⟩ ⟨Nat.le_of_ble_eq_true rfl, Nat.le_of_ble_eq_true rfl⟩ kv_X3_pegs rfl rfl rfl hl.1 (Nat.le_of_ble_eq_true rfl) ⟨Nat.zero_le _, Nat.zero_le _⟩ dX11_game_21 hP hS rfl (fun H locs hP hS => ?_)
    refine lv_aload_n C.1 C.2.1 dX11_game_24 rfl (lv_at hl 0 rfl) ?_
    refine gf_X11_12_0 C hP dX11_game_25 ?_
    obtain ⟨r4, hd4, hD⟩ := bp_some hD
    refine kVi_X (As := []) (rest := [.int r3, .ref (g.2.2 20)]) (ci := 3) (q0 := 1) C (c_X3_colours l g H.size σ hd4) kw_X11_100 ⟨rfl, rfl⟩ ⟨Nat.le_of_ble_eq_true rfl, Nat.le_of_ble_eq_true rfl⟩ kv_X3_colours rfl rfl rfl hl.1 (Nat.le_of_ble_eq_true rfl) ⟨Nat.zero_le _, Nat.zero_le _⟩ dX11_game_28 hP hS rfl (fun H locs hP hS => ?_)
    obtain ⟨s5, hd5, hD⟩ := bp_some hD
    refine kVv_X (As := [.int r3, .int r4]) (rest := []) (ci := 6) (q0 := 20) C (c_X6_lay l g H.size N σ r3 r4 hd5) kw_X11_103 ⟨rfl, rfl⟩ ⟨Nat.le_of_ble_eq_true rfl, Nat.le_of_ble_eq_true rfl⟩ kv_X6_lay rfl rfl rfl hl.1 (Nat.le_of_ble_eq_true rfl) ⟨Nat.zero_le _, Nat.zero_le _⟩ dX11_game_31 hP hS rfl (fun H locs hP hS => ?_)
    refine lv_aload_n C.1 C.2.1 dX11_game_34 rfl (lv_at hl 0 rfl) ?_
    refine lv_aload_n C.1 C.2.1 dX11_game_35 rfl (lv_at hl 0 rfl) ?_
    refine gf_X11_12_0 C hP dX11_game_36 ?_
    obtain ⟨r6, hd6, hD⟩ := bp_some hD
    refine kVi_X (As := []) (rest := [.ref (g.2.2 0)]) (ci := 3) (q0 := 1) C (c_X3_judgesWritten l g H.size N s5 hd6) kw_X11_107 ⟨rfl, rfl⟩ ⟨Nat.le_of_ble_eq_true rfl, Nat.le_of_ble_eq_true rfl⟩ kv_X3_judgesWritten rfl rfl rfl hl.1 (Nat.le_of_ble_eq_true rfl) ⟨Nat.zero_le _, Nat.zero_le _⟩ dX11_game_39 hP hS rfl (fun H locs hP hS => ?_)
    refine pf_X11_110_0 C hP hS dX11_game_42 (fun H locs hP hS => ?_)
    refine lv_iconst (v := (0 : Int32)) C.1 C.2.1 dX11_game_45 (by decide) ?_
    refine lv_istore_n (lv' := [(1, .int (0 : Int32)), (0, .ref (g.2.2 0))]) C.1 C.2.1 dX11_game_46 rfl hl (by decide) rfl (fun ls hl => ?_)
    exact w_L_X11_game_47 C hr N N (0 : Int32) (pt s5 0 9 r6) H locs ls (lv_sub hl [1, 0] rfl) hP hS hD
  · have hD := b_t c2 hD
    refine lv_bipush (v := (-103 : Int32)) C.1 C.2.1 dX11_game_10 (by decide) ?_
    cases hD
    exact ri_X C hr hP hS dX11_game_12
abbrev rm_X11_hide : Room := { frames := 1, cells := 0, slots := 0, locals := 21 }
set_option maxHeartbeats 4000000 in
set_option maxRecDepth 100000 in
theorem c_X11_hide (l : Launch) (g : Gx) (sz : Nat) (σ : St) (x1 : Int32) {r : Int32} {u : St} (hD : D_X11_hide σ x1 = some (r, u)) : Met l yX11_hide (Cond.code yX11_hide cX11_hide 3 (some .int) :: tb) rm_X11_hide (PcX g [.ref (g.2.2 0), .int x1] σ sz) (QiX g (AX g sz) r u) 0 0 (AX g sz) := by
  refine Met.ofW (cc := cX11_hide) (maxL := 3) (ret := some .int) (by decide) rfl ?_
  intro p e s m args below meth c s₁ B hml hv
  have hv0 := hv
  obtain ⟨rfl, hsz, hP, -⟩ := hv
  subst hsz
  have C : CX g (AX g s.heap.size) p s m _ meth c cX11_hide 3 RX11 := CX.of B hml (fun w h => List.mem_cons_of_mem _ h) rfl hv0
  have hr := B.returns
  have hS : va_S (AX g s.heap.size) s.heap s.heap [] := va_S.rf
  have hl := lv_entry ([.ref (g.2.2 0), .int x1]) (n := 3) (Nat.le_of_ble_eq_true rfl)
  rw [lg_entry_eq]
  generalize (lg_sl ([.ref (g.2.2 0), .int x1]) ++ List.replicate (3 - (lg_sl ([.ref (g.2.2 0), .int x1])).length) Slot.unset).toArray = ls at hl ⊢
  have hl : lv_has ls 3 [(0, .ref (g.2.2 0)), (1, .int x1)] := hl
  obtain ⟨H, hH⟩ : ∃ H, H = s.heap := ⟨_, rfl⟩
  have hP : va_P g.1 vwCl (wX g σ) H := by rw [hH]; exact hP
  have hS : va_S (AX g s.heap.size) s.heap H [] := by rw [hH]; exact hS
  refine wH hH ?_
  obtain ⟨locs, hlo⟩ : ∃ locs : List Loc, locs = [] := ⟨_, rfl⟩
  rw [← hlo] at hS
  refine wL hlo ?_
  unfold D_X11_hide at hD
  refine lv_aload_n C.1 C.2.1 dX11_hide_0 rfl (lv_at hl 0 rfl) ?_
  refine lv_iload_n C.1 C.2.1 dX11_hide_1 rfl (lv_at hl 1 rfl) ?_
  obtain ⟨r1, hd1, hD⟩ := bp_some hD
  refine kVi_X (As := [.int x1]) (rest := []) (ci := 11) (q0 := 0) C (c_X11_isRow l g H.size σ x1 hd1) kw_X11_162 ⟨rfl, rfl⟩ ⟨Nat.le_of_ble_eq_true rfl, Nat.le_of_ble_eq_true rfl⟩ kv_X11_isRow rfl rfl rfl hl.1 (Nat.le_of_ble_eq_true rfl) ⟨Nat.zero_le _, Nat.zero_le _⟩ dX11_hide_2 hP hS rfl (fun H locs hP hS => ?_)
  refine lv_if_ne (tgt := 11) C.1 C.2.1 dX11_hide_5 (by decide) (fun c2 => ?_) (fun c2 => ?_)
  · have hD := b_f c2 hD
    refine lv_aload_n C.1 C.2.1 dX11_hide_11 rfl (lv_at hl 0 rfl) ?_
    refine gf_X11_42_0 C hP dX11_hide_12 ?_
    refine gf_X11_122_10 C hP dX11_hide_15 ?_
    refine lv_istore_n (lv' := [(2, .int (σ 10 4)), (0, .ref (g.2.2 0)), (1, .int x1)]) C.1 C.2.1 dX11_hide_18 rfl hl (by decide) rfl (fun ls hl => ?_)
    refine lv_aload_n C.1 C.2.1 dX11_hide_19 rfl (lv_at hl 1 rfl) ?_
    refine gf_X11_42_0 C hP dX11_hide_20 ?_
    refine lv_iload_n C.1 C.2.1 dX11_hide_23 rfl (lv_at hl 2 rfl) ?_
    refine pf_X11_122_10 C hP hS dX11_hide_24 (fun H locs hP hS => ?_)
    refine lv_iload_n C.1 C.2.1 dX11_hide_27 rfl (lv_at hl 0 rfl) ?_
    cases hD
    exact ri_X C hr hP hS dX11_hide_28
  · have hD := b_t c2 hD
    refine lv_bipush (v := (-101 : Int32)) C.1 C.2.1 dX11_hide_8 (by decide) ?_
    cases hD
    exact ri_X C hr hP hS dX11_hide_10
abbrev rm_X11_howLong : Room := { frames := 6, cells := 0, slots := 0, locals := 141 }
set_option maxHeartbeats 4000000 in
set_option maxRecDepth 100000 in
theorem w_J_X11_howLong_116 (C : CX g A p s m args meth c cX11_howLong 6 RX11) (hr : meth.sig.returnType = some .int) (N : Nat) {r : Int32} {u : St} (x4 : Int32) : ∀ (σ : St) (H : Heap) (locs : List Loc) (ls : Array Slot), lv_has ls 6 [(0, .ref (g.2.2 0)), (4, .int x4)] → va_P g.1 vwCl (wX g σ) H → va_S A s.heap H locs → J_X11_howLong_116 N x4 σ = some (r, u) → W p l e rm_X11_howLong s m args below meth c H locs 0 0 (MQ below (QiX g A r u) args s 0 0 A) (F0 m 116 ls []) := by
  intro σ H locs ls hl hP hS hD
  unfold J_X11_howLong_116 at hD
  refine lv_aload_n C.1 C.2.1 dX11_howLong_116 rfl (lv_at hl 0 rfl) ?_
  refine gf_X11_61_0 C hP dX11_howLong_117 ?_
  refine gf_X11_212_24 C hP dX11_howLong_120 ?_
  refine lv_iconst (v := (1 : Int32)) C.1 C.2.1 dX11_howLong_123 (by decide) ?_
  refine lv_icmp_ne (tgt := 132) C.1 C.2.1 dX11_howLong_124 (by decide) (fun c9 => ?_) (fun c9 => ?_)
  · have hD := b_f c9 hD
    refine lv_iconst (v := (-1 : Int32)) C.1 C.2.1 dX11_howLong_132 (by decide) ?_
    cases hD
    exact ri_X C hr hP hS dX11_howLong_133
  · have hD := b_t c9 hD
    refine lv_iload C.1 C.2.1 dX11_howLong_127 (lv_at hl 1 rfl) ?_
    refine lv_goto (tgt := 133) C.1 C.2.1 dX11_howLong_129 (by decide) ?_
    cases hD
    exact ri_X C hr hP hS dX11_howLong_133
set_option maxHeartbeats 4000000 in
set_option maxRecDepth 100000 in
theorem w_L_X11_howLong_57 (C : CX g A p s m args meth c cX11_howLong 6 RX11) (hr : meth.sig.returnType = some .int) (N : Nat) {r : Int32} {u : St} (x2 : Int32) (k3 : Nat) : ∀ (n : Nat) (x4 : Int32) (σ : St) (H : Heap) (locs : List Loc) (ls : Array Slot), lv_has ls 6 [(0, .ref (g.2.2 0)), (2, .int x2), (3, .ref (g.2.2 (4 + k3))), (4, .int x4)] → va_P g.1 vwCl (wX g σ) H → va_S A s.heap H locs → L_X11_howLong_57 N x2 k3 n x4 σ = some (r, u) → W p l e rm_X11_howLong s m args below meth c H locs 0 0 (MQ below (QiX g A r u) args s 0 0 A) (F0 m 57 ls []) := by
  intro n
  induction n with
  | zero =>
    intro x4 σ H locs ls hl hP hS hD
    rw [L_X11_howLong_57] at hD
    cases hD
  | succ n ih =>
    intro x4 σ H locs ls hl hP hS hD
    rw [L_X11_howLong_57] at hD
    refine lv_iload C.1 C.2.1 dX11_howLong_57 (lv_at hl 3 rfl) ?_
    refine lv_bipush (v := (8 : Int32)) C.1 C.2.1 dX11_howLong_59 (by decide) ?_
    refine lv_icmp_ge (tgt := 116) C.1 C.2.1 dX11_howLong_61 (by decide) (fun c8 => ?_) (fun c8 => ?_)
    · have hD := b_t c8 hD
      exact w_J_X11_howLong_116 C hr N x4 σ H locs ls (lv_sub hl [0, 3] rfl) hP hS hD
    · have hD := b_f c8 hD
      refine lv_aload_n C.1 C.2.1 dX11_howLong_64 rfl (lv_at hl 0 rfl) ?_
      refine gf_X11_61_0 C hP dX11_howLong_65 ?_
      refine gf_X11_212_24 C hP dX11_howLong_68 ?_
      refine lv_iconst (v := (1 : Int32)) C.1 C.2.1 dX11_howLong_71 (by decide) ?_
      refine lv_icmp_le (tgt := 116) C.1 C.2.1 dX11_howLong_72 (by decide) (fun c10 => ?_) (fun c10 => ?_)
      · have hD := b_t c10 hD
        exact w_J_X11_howLong_116 C hr N x4 σ H locs ls (lv_sub hl [0, 3] rfl) hP hS hD
      · have hD := b_f c10 hD
        refine lv_aload_n C.1 C.2.1 dX11_howLong_75 rfl (lv_at hl 0 rfl) ?_
        refine gf_X11_61_0 C hP dX11_howLong_76 ?_
        refine lv_aload_n C.1 C.2.1 dX11_howLong_79 rfl (lv_at hl 2 rfl) ?_
        obtain ⟨r11, s11, hd11, hD⟩ := bs_some hD
        refine kVi_X (As := [.ref (g.2.2 (4 + k3))]) (rest := []) (ci := 5) (q0 := 24) C (c_X5_bestRow l g H.size N σ k3 hd11) kw_X11_202 ⟨rfl, rfl⟩ ⟨Nat.le_of_ble_eq_true rfl, Nat.le_of_ble_eq_true rfl⟩ kv_X5_bestRow rfl rfl rfl hl.1 (Nat.le_of_ble_eq_true rfl) ⟨Nat.zero_le _, Nat.zero_le _⟩ dX11_howLong_80 hP hS rfl (fun H locs hP hS => ?_)
        refine lv_iconst (v := (0 : Int32)) C.1 C.2.1 dX11_howLong_83 (by decide) ?_
        refine mx_X C kw_X11_222 hl.1 (Nat.le_of_ble_eq_true rfl) (Nat.le_of_ble_eq_true rfl) ⟨Nat.zero_le _, Nat.zero_le _⟩ dX11_howLong_84 ?_
        refine lv_istore (lv' := [(5, .int (if r11 < (0 : Int32) then (0 : Int32) else r11)), (0, .ref (g.2.2 0)), (2, .int x2), (3, .ref (g.2.2 (4 + k3))), (4, .int x4)]) C.1 C.2.1 dX11_howLong_87 hl (by decide) rfl (fun ls hl => ?_)
        refine lv_aload_n C.1 C.2.1 dX11_howLong_89 rfl (lv_at hl 1 rfl) ?_
        refine gf_X11_61_0 C hP dX11_howLong_90 ?_
        refine lv_aload_n C.1 C.2.1 dX11_howLong_93 rfl (lv_at hl 3 rfl) ?_
        refine lv_iload C.1 C.2.1 dX11_howLong_94 (lv_at hl 0 rfl) ?_
        refine lv_aload_n C.1 C.2.1 dX11_howLong_96 rfl (lv_at hl 3 rfl) ?_
        refine lv_aload_n C.1 C.2.1 dX11_howLong_97 rfl (lv_at hl 1 rfl) ?_
        refine gf_X11_57_0 C hP dX11_howLong_98 ?_
        refine lv_iload C.1 C.2.1 dX11_howLong_101 (lv_at hl 0 rfl) ?_
        refine lv_iload_n C.1 C.2.1 dX11_howLong_103 rfl (lv_at hl 2 rfl) ?_
        obtain ⟨r13, hd13, hD⟩ := bp_some hD
        refine kW_X11_174 C hd13 ⟨Nat.le_of_ble_eq_true rfl, Nat.le_of_ble_eq_true rfl⟩ hl.1 (Nat.le_of_ble_eq_true rfl) ⟨Nat.zero_le _, Nat.zero_le _⟩ dX11_howLong_104 hP hS (fun H locs hP hS => ?_)
        obtain ⟨s14, hd14, hD⟩ := bp_some hD
        refine kVv_X (As := [.ref (g.2.2 (4 + k3)), .int (if r11 < (0 : Int32) then (0 : Int32) else r11), .int r13]) (rest := []) (ci := 5) (q0 := 24) C (c_X5_keep l g H.size N s11 k3 (if r11 < (0 : Int32) then (0 : Int32) else r11) r13 hd14) kw_X11_227 ⟨rfl, rfl⟩ ⟨Nat.le_of_ble_eq_true rfl, Nat.le_of_ble_eq_true rfl⟩ kv_X5_keep rfl rfl rfl hl.1 (Nat.le_of_ble_eq_true rfl) ⟨Nat.zero_le _, Nat.zero_le _⟩ dX11_howLong_107 hP hS rfl (fun H locs hP hS => ?_)
        refine lv_iinc (v := x4 + (1 : Int32)) (lv' := [(4, .int (x4 + (1 : Int32))), (5, .int (if r11 < (0 : Int32) then (0 : Int32) else r11)), (0, .ref (g.2.2 0)), (2, .int x2), (3, .ref (g.2.2 (4 + k3)))]) C.1 C.2.1 dX11_howLong_110 hl (k := 4) rfl rfl (by decide) rfl (fun ls hl => ?_)
        refine lv_goto (tgt := 57) C.1 C.2.1 dX11_howLong_113 (by decide) ?_
        exact ih (x4 + (1 : Int32)) s14 H locs ls (lv_sub hl [2, 3, 4, 0] rfl) hP hS hD
set_option maxHeartbeats 4000000 in
set_option maxRecDepth 100000 in
theorem c_X11_howLong (l : Launch) (g : Gx) (sz : Nat) (N : Nat) (σ : St) (x1 : Int32) (x2 : Int32) {r : Int32} {u : St} (hD : D_X11_howLong N σ x1 x2 = some (r, u)) : Met l yX11_howLong (Cond.code yX11_howLong cX11_howLong 6 (some .int) :: tb) rm_X11_howLong (PcX g [.ref (g.2.2 0), .int x1, .int x2] σ sz) (QiX g (AX g sz) r u) 0 0 (AX g sz) := by
  refine Met.ofW (cc := cX11_howLong) (maxL := 6) (ret := some .int) (by decide) rfl ?_
  intro p e s m args below meth c s₁ B hml hv
  have hv0 := hv
  obtain ⟨rfl, hsz, hP, -⟩ := hv
  subst hsz
  have C : CX g (AX g s.heap.size) p s m _ meth c cX11_howLong 6 RX11 := CX.of B hml (fun w h => List.mem_cons_of_mem _ h) rfl hv0
  have hr := B.returns
  have hS : va_S (AX g s.heap.size) s.heap s.heap [] := va_S.rf
  have hl := lv_entry ([.ref (g.2.2 0), .int x1, .int x2]) (n := 6) (Nat.le_of_ble_eq_true rfl)
  rw [lg_entry_eq]
  generalize (lg_sl ([.ref (g.2.2 0), .int x1, .int x2]) ++ List.replicate (6 - (lg_sl ([.ref (g.2.2 0), .int x1, .int x2])).length) Slot.unset).toArray = ls at hl ⊢
  have hl : lv_has ls 6 [(0, .ref (g.2.2 0)), (1, .int x1), (2, .int x2)] := hl
  obtain ⟨H, hH⟩ : ∃ H, H = s.heap := ⟨_, rfl⟩
  have hP : va_P g.1 vwCl (wX g σ) H := by rw [hH]; exact hP
  have hS : va_S (AX g s.heap.size) s.heap H [] := by rw [hH]; exact hS
  refine wH hH ?_
  obtain ⟨locs, hlo⟩ : ∃ locs : List Loc, locs = [] := ⟨_, rfl⟩
  rw [← hlo] at hS
  refine wL hlo ?_
  unfold D_X11_howLong at hD
  refine lv_aload_n C.1 C.2.1 dX11_howLong_0 rfl (lv_at hl 0 rfl) ?_
  refine lv_iload_n C.1 C.2.1 dX11_howLong_1 rfl (lv_at hl 1 rfl) ?_
  obtain ⟨r1, hd1, hD⟩ := bp_some hD
  refine kVi_X (As := [.int x1]) (rest := []) (ci := 11) (q0 := 0) C (c_X11_isJudge l g H.size σ x1 hd1) kw_X11_134 ⟨rfl, rfl⟩ ⟨Nat.le_of_ble_eq_true rfl, Nat.le_of_ble_eq_true rfl⟩ kv_X11_isJudge rfl rfl rfl hl.1 (Nat.le_of_ble_eq_true rfl) ⟨Nat.zero_le _, Nat.zero_le _⟩ dX11_howLong_2 hP hS rfl (fun H locs hP hS => ?_)
  refine lv_if_eq (tgt := 16) C.1 C.2.1 dX11_howLong_5 (by decide) (fun c2 => ?_) (fun c2 => ?_)
  · have hD := b_t c2 hD
    refine lv_bipush (v := (-101 : Int32)) C.1 C.2.1 dX11_howLong_16 (by decide) ?_
    cases hD
    exact ri_X C hr hP hS dX11_howLong_18
  · have hD := b_f c2 hD
    refine lv_aload_n C.1 C.2.1 dX11_howLong_8 rfl (lv_at hl 0 rfl) ?_
    refine lv_iload_n C.1 C.2.1 dX11_howLong_9 rfl (lv_at hl 2 rfl) ?_
    obtain ⟨r3, hd3, hD⟩ := bp_some hD
    refine kVi_X (As := [.int x2]) (rest := []) (ci := 11) (q0 := 0) C (c_X11_isRow l g H.size σ x2 hd3) kw_X11_162 ⟨rfl, rfl⟩ ⟨Nat.le_of_ble_eq_true rfl, Nat.le_of_ble_eq_true rfl⟩ kv_X11_isRow rfl rfl rfl hl.1 (Nat.le_of_ble_eq_true rfl) ⟨Nat.zero_le _, Nat.zero_le _⟩ dX11_howLong_10 hP hS rfl (fun H locs hP hS => ?_)
    refine lv_if_ne (tgt := 19) C.1 C.2.1 dX11_howLong_13 (by decide) (fun c4 => ?_) (fun c4 => ?_)
    · have hD := b_f c4 hD
      refine lv_aload_n C.1 C.2.1 dX11_howLong_19 rfl (lv_at hl 0 rfl) ?_
      refine gf_X11_216_0 C hP dX11_howLong_20 ?_
      refine lv_bipush (v := (6 : Int32)) C.1 C.2.1 dX11_howLong_23 (by decide) ?_
      refine lv_icmp_lt (tgt := 31) C.1 C.2.1 dX11_howLong_25 (by decide) (fun c5 => ?_) (fun c5 => ?_)
      · have hD := b_t c5 hD
        refine lv_aload_n C.1 C.2.1 dX11_howLong_31 rfl (lv_at hl 0 rfl) ?_
        refine lv_dup C.1 C.2.1 dX11_howLong_32 rfl ?_
        refine gf_X11_216_0 C hP dX11_howLong_33 ?_
        refine lv_iconst (v := (1 : Int32)) C.1 C.2.1 dX11_howLong_36 (by decide) ?_
        refine lv_iadd C.1 C.2.1 dX11_howLong_37 ?_
        refine pf_X11_216_0 C hP hS dX11_howLong_38 (fun H locs hP hS => ?_)
        refine lv_aload_n C.1 C.2.1 dX11_howLong_41 rfl (lv_at hl 0 rfl) ?_
        refine lv_iload_n C.1 C.2.1 dX11_howLong_42 rfl (lv_at hl 1 rfl) ?_
        obtain ⟨r6, hd6, hD⟩ := bp_some hD
        refine kVr_X (As := [.int x1]) (rest := []) (ci := 11) (q0 := 0) C (c_X11_judgeAt l g H.size (pt σ 0 13 ((σ 0 13) + (1 : Int32))) x1 hd6) kw_X11_147 ⟨rfl, rfl⟩ ⟨Nat.le_of_ble_eq_true rfl, Nat.le_of_ble_eq_true rfl⟩ kv_X11_judgeAt rfl rfl rfl hl.1 (Nat.le_of_ble_eq_true rfl) ⟨Nat.zero_le _, Nat.zero_le _⟩ dX11_howLong_43 hP hS rfl (fun H locs hP hS => ?_)
        refine lv_astore_n (lv' := [(3, .ref (g.2.2 (4 + r6))), (0, .ref (g.2.2 0)), (1, .int x1), (2, .int x2)]) C.1 C.2.1 dX11_howLong_46 rfl hl (by decide) rfl (fun ls hl => ?_)
        refine lv_aload_n C.1 C.2.1 dX11_howLong_47 rfl (lv_at hl 1 rfl) ?_
        refine gf_X11_61_0 C hP dX11_howLong_48 ?_
        obtain ⟨s7, hd7, hD⟩ := bp_some hD
        refine kVv_X (As := []) (rest := []) (ci := 5) (q0 := 24) C (c_X5_fill l g H.size N (pt σ 0 13 ((σ 0 13) + (1 : Int32))) hd7) kw_X11_219 ⟨rfl, rfl⟩ ⟨Nat.le_of_ble_eq_true rfl, Nat.le_of_ble_eq_true rfl⟩ kv_X5_fill rfl rfl rfl hl.1 (Nat.le_of_ble_eq_true rfl) ⟨Nat.zero_le _, Nat.zero_le _⟩ dX11_howLong_51 hP hS rfl (fun H locs hP hS => ?_)
        refine lv_iconst (v := (0 : Int32)) C.1 C.2.1 dX11_howLong_54 (by decide) ?_
        refine lv_istore (lv' := [(4, .int (0 : Int32)), (3, .ref (g.2.2 (4 + r6))), (0, .ref (g.2.2 0)), (1, .int x1), (2, .int x2)]) C.1 C.2.1 dX11_howLong_55 hl (by decide) rfl (fun ls hl => ?_)
        exact w_L_X11_howLong_57 C hr N x2 r6 N (0 : Int32) s7 H locs ls (lv_sub hl [2, 4, 1, 0] rfl) hP hS hD
      · have hD := b_f c5 hD
        refine lv_bipush (v := (-103 : Int32)) C.1 C.2.1 dX11_howLong_28 (by decide) ?_
        cases hD
        exact ri_X C hr hP hS dX11_howLong_30
    · have hD := b_t c4 hD
      refine lv_bipush (v := (-101 : Int32)) C.1 C.2.1 dX11_howLong_16 (by decide) ?_
      cases hD
      exact ri_X C hr hP hS dX11_howLong_18
abbrev rm_X11_image : Room := { frames := 2, cells := 0, slots := 0, locals := 61 }
set_option maxHeartbeats 4000000 in
set_option maxRecDepth 100000 in
theorem c_X11_image (l : Launch) (g : Gx) (sz : Nat) (σ : St) {r : Int32} {u : St} (hD : D_X11_image σ = some (r, u)) : Met l yX11_image (Cond.code yX11_image cX11_image 1 (some .int) :: tb) rm_X11_image (PcX g [.ref (g.2.2 0)] σ sz) (QiX g (AX g sz) r u) 0 0 (AX g sz) := by
  refine Met.ofW (cc := cX11_image) (maxL := 1) (ret := some .int) (by decide) rfl ?_
  intro p e s m args below meth c s₁ B hml hv
  have hv0 := hv
  obtain ⟨rfl, hsz, hP, -⟩ := hv
  subst hsz
  have C : CX g (AX g s.heap.size) p s m _ meth c cX11_image 1 RX11 := CX.of B hml (fun w h => List.mem_cons_of_mem _ h) rfl hv0
  have hr := B.returns
  have hS : va_S (AX g s.heap.size) s.heap s.heap [] := va_S.rf
  have hl := lv_entry ([.ref (g.2.2 0)]) (n := 1) (Nat.le_of_ble_eq_true rfl)
  rw [lg_entry_eq]
  generalize (lg_sl ([.ref (g.2.2 0)]) ++ List.replicate (1 - (lg_sl ([.ref (g.2.2 0)])).length) Slot.unset).toArray = ls at hl ⊢
  have hl : lv_has ls 1 [(0, .ref (g.2.2 0))] := hl
  obtain ⟨H, hH⟩ : ∃ H, H = s.heap := ⟨_, rfl⟩
  have hP : va_P g.1 vwCl (wX g σ) H := by rw [hH]; exact hP
  have hS : va_S (AX g s.heap.size) s.heap H [] := by rw [hH]; exact hS
  refine wH hH ?_
  obtain ⟨locs, hlo⟩ : ∃ locs : List Loc, locs = [] := ⟨_, rfl⟩
  rw [← hlo] at hS
  refine wL hlo ?_
  unfold D_X11_image at hD
  refine lv_aload_n C.1 C.2.1 dX11_image_0 rfl (lv_at hl 0 rfl) ?_
  obtain ⟨r1, hd1, hD⟩ := bp_some hD
  refine kVi_X (As := []) (rest := []) (ci := 11) (q0 := 0) C (c_X11_isGameOn l g H.size σ hd1) kw_X11_193 ⟨rfl, rfl⟩ ⟨Nat.le_of_ble_eq_true rfl, Nat.le_of_ble_eq_true rfl⟩ kv_X11_isGameOn rfl rfl rfl hl.1 (Nat.le_of_ble_eq_true rfl) ⟨Nat.zero_le _, Nat.zero_le _⟩ dX11_image_1 hP hS rfl (fun H locs hP hS => ?_)
  refine lv_if_ne (tgt := 10) C.1 C.2.1 dX11_image_4 (by decide) (fun c2 => ?_) (fun c2 => ?_)
  · have hD := b_f c2 hD
    refine lv_aload_n C.1 C.2.1 dX11_image_10 rfl (lv_at hl 0 rfl) ?_
    refine gf_X11_46_0 C hP dX11_image_11 ?_
    refine lv_aload_n C.1 C.2.1 dX11_image_14 rfl (lv_at hl 0 rfl) ?_
    refine gf_X11_42_0 C hP dX11_image_15 ?_
    obtain ⟨s3, hd3, hD⟩ := bp_some hD
    refine kVv_X (As := [.ref (g.2.2 10)]) (rest := []) (ci := 0) (q0 := 15) C (c_X0_take_k l g H.size σ hd3) kw_X11_259 ⟨rfl, rfl⟩ ⟨Nat.le_of_ble_eq_true rfl, Nat.le_of_ble_eq_true rfl⟩ kv_X0_take rfl rfl rfl hl.1 (Nat.le_of_ble_eq_true rfl) ⟨Nat.zero_le _, Nat.zero_le _⟩ dX11_image_18 hP hS rfl (fun H locs hP hS => ?_)
    refine lv_aload_n C.1 C.2.1 dX11_image_21 rfl (lv_at hl 0 rfl) ?_
    refine lv_iconst (v := (1 : Int32)) C.1 C.2.1 dX11_image_22 (by decide) ?_
    refine pf_X11_126_0 C hP hS (by decide) (by decide) dX11_image_23 (fun H locs hP hS => ?_)
    refine lv_aload_n C.1 C.2.1 dX11_image_26 rfl (lv_at hl 0 rfl) ?_
    refine gf_X11_46_0 C hP dX11_image_27 ?_
    refine gf_X11_125_15 C hP dX11_image_30 ?_
    refine w_rd (show (pt s3 0 10 (1 : Int32)) 15 5 = s3 15 5 from rfl) ?_
    cases hD
    exact ri_X C hr hP hS dX11_image_33
  · have hD := b_t c2 hD
    refine lv_bipush (v := (-103 : Int32)) C.1 C.2.1 dX11_image_7 (by decide) ?_
    cases hD
    exact ri_X C hr hP hS dX11_image_9
abbrev rm_X3_append : Room := { frames := 0, cells := 0, slots := 0, locals := 0 }
set_option maxHeartbeats 4000000 in
set_option maxRecDepth 100000 in
theorem c_X3_append (l : Launch) (g : Gx) (sz : Nat) (σ : St) (x1 : Int32) {u : St} (hD : D_X3_append σ x1 = some u) : Met l yX3_append (Cond.code yX3_append cX3_append 2 (none) :: tb) rm_X3_append (PcX g [.ref (g.2.2 1), .int x1] σ sz) (QvX g (AX g sz) u) 0 0 (AX g sz) := by
  refine Met.ofW (cc := cX3_append) (maxL := 2) (ret := none) (by decide) rfl ?_
  intro p e s m args below meth c s₁ B hml hv
  have hv0 := hv
  obtain ⟨rfl, hsz, hP, -⟩ := hv
  subst hsz
  have C : CX g (AX g s.heap.size) p s m _ meth c cX3_append 2 RX3 := CX.of B hml (fun w h => List.mem_cons_of_mem _ h) rfl hv0
  have hr := B.returns
  have hS : va_S (AX g s.heap.size) s.heap s.heap [] := va_S.rf
  have hl := lv_entry ([.ref (g.2.2 1), .int x1]) (n := 2) (Nat.le_of_ble_eq_true rfl)
  rw [lg_entry_eq]
  generalize (lg_sl ([.ref (g.2.2 1), .int x1]) ++ List.replicate (2 - (lg_sl ([.ref (g.2.2 1), .int x1])).length) Slot.unset).toArray = ls at hl ⊢
  have hl : lv_has ls 2 [(0, .ref (g.2.2 1)), (1, .int x1)] := hl
  obtain ⟨H, hH⟩ : ∃ H, H = s.heap := ⟨_, rfl⟩
  have hP : va_P g.1 vwCl (wX g σ) H := by rw [hH]; exact hP
  have hS : va_S (AX g s.heap.size) s.heap H [] := by rw [hH]; exact hS
  refine wH hH ?_
  obtain ⟨locs, hlo⟩ : ∃ locs : List Loc, locs = [] := ⟨_, rfl⟩
  rw [← hlo] at hS
  refine wL hlo ?_
  unfold D_X3_append at hD
  refine lv_aload_n C.1 C.2.1 dX3_append_0 rfl (lv_at hl 0 rfl) ?_
  refine gf_X3_15_1 C hP dX3_append_1 ?_
  refine lv_bipush (v := (12 : Int32)) C.1 C.2.1 dX3_append_4 (by decide) ?_
  refine lv_icmp_ge (tgt := 29) C.1 C.2.1 dX3_append_6 (by decide) (fun c1 => ?_) (fun c1 => ?_)
  · have hD := b_t c1 hD
    cases hD
    exact rv_X C hr hP hS dX3_append_29
  · have hD := b_f c1 hD
    refine lv_aload_n C.1 C.2.1 dX3_append_9 rfl (lv_at hl 0 rfl) ?_
    refine gf_X3_9_1 C hP dX3_append_10 ?_
    refine lv_aload_n C.1 C.2.1 dX3_append_13 rfl (lv_at hl 0 rfl) ?_
    refine gf_X3_15_1 C hP dX3_append_14 ?_
    refine lv_iload_n C.1 C.2.1 dX3_append_17 rfl (lv_at hl 1 rfl) ?_
    obtain ⟨hi2, hD⟩ := gi_some hD
    refine isX C hP hS 2 rfl hi2 dX3_append_18 st_2 (fun H locs hP hS => ?_)
    refine lv_aload_n C.1 C.2.1 dX3_append_19 rfl (lv_at hl 0 rfl) ?_
    refine lv_dup C.1 C.2.1 dX3_append_20 rfl ?_
    refine gf_X3_15_1 C hP dX3_append_21 ?_
    refine w_rd (show (pt σ 2 ((σ 1 1).toNatClampNeg) x1) 1 1 = σ 1 1 from rfl) ?_
    refine lv_iconst (v := (1 : Int32)) C.1 C.2.1 dX3_append_24 (by decide) ?_
    refine lv_iadd C.1 C.2.1 dX3_append_25 ?_
    refine pf_X3_15_1 C hP hS dX3_append_26 (fun H locs hP hS => ?_)
    cases hD
    exact rv_X C hr hP hS dX3_append_29
abbrev rm_X11_letter : Room := { frames := 1, cells := 0, slots := 0, locals := 21 }
set_option maxHeartbeats 4000000 in
set_option maxRecDepth 100000 in
theorem c_X11_letter (l : Launch) (g : Gx) (sz : Nat) (σ : St) (x1 : Int32) {r : Int32} {u : St} (hD : D_X11_letter σ x1 = some (r, u)) : Met l yX11_letter (Cond.code yX11_letter cX11_letter 2 (some .int) :: tb) rm_X11_letter (PcX g [.ref (g.2.2 0), .int x1] σ sz) (QiX g (AX g sz) r u) 0 0 (AX g sz) := by
  refine Met.ofW (cc := cX11_letter) (maxL := 2) (ret := some .int) (by decide) rfl ?_
  intro p e s m args below meth c s₁ B hml hv
  have hv0 := hv
  obtain ⟨rfl, hsz, hP, -⟩ := hv
  subst hsz
  have C : CX g (AX g s.heap.size) p s m _ meth c cX11_letter 2 RX11 := CX.of B hml (fun w h => List.mem_cons_of_mem _ h) rfl hv0
  have hr := B.returns
  have hS : va_S (AX g s.heap.size) s.heap s.heap [] := va_S.rf
  have hl := lv_entry ([.ref (g.2.2 0), .int x1]) (n := 2) (Nat.le_of_ble_eq_true rfl)
  rw [lg_entry_eq]
  generalize (lg_sl ([.ref (g.2.2 0), .int x1]) ++ List.replicate (2 - (lg_sl ([.ref (g.2.2 0), .int x1])).length) Slot.unset).toArray = ls at hl ⊢
  have hl : lv_has ls 2 [(0, .ref (g.2.2 0)), (1, .int x1)] := hl
  obtain ⟨H, hH⟩ : ∃ H, H = s.heap := ⟨_, rfl⟩
  have hP : va_P g.1 vwCl (wX g σ) H := by rw [hH]; exact hP
  have hS : va_S (AX g s.heap.size) s.heap H [] := by rw [hH]; exact hS
  refine wH hH ?_
  obtain ⟨locs, hlo⟩ : ∃ locs : List Loc, locs = [] := ⟨_, rfl⟩
  rw [← hlo] at hS
  refine wL hlo ?_
  unfold D_X11_letter at hD
  refine lv_iload_n C.1 C.2.1 dX11_letter_0 rfl (lv_at hl 1 rfl) ?_
  refine lv_iconst (v := (1 : Int32)) C.1 C.2.1 dX11_letter_1 (by decide) ?_
  refine lv_icmp_lt (tgt := 11) C.1 C.2.1 dX11_letter_2 (by decide) (fun c1 => ?_) (fun c1 => ?_)
  · have hD := b_t c1 hD
    refine lv_bipush (v := (-102 : Int32)) C.1 C.2.1 dX11_letter_11 (by decide) ?_
    cases hD
    exact ri_X C hr hP hS dX11_letter_13
  · have hD := b_f c1 hD
    refine lv_iload_n C.1 C.2.1 dX11_letter_5 rfl (lv_at hl 1 rfl) ?_
    refine lv_bipush (v := (126 : Int32)) C.1 C.2.1 dX11_letter_6 (by decide) ?_
    refine lv_icmp_le (tgt := 14) C.1 C.2.1 dX11_letter_8 (by decide) (fun c2 => ?_) (fun c2 => ?_)
    · have hD := b_t c2 hD
      refine lv_aload_n C.1 C.2.1 dX11_letter_14 rfl (lv_at hl 0 rfl) ?_
      refine gf_X11_12_0 C hP dX11_letter_15 ?_
      refine gf_X11_81_1 C hP dX11_letter_18 ?_
      refine lv_bipush (v := (12 : Int32)) C.1 C.2.1 dX11_letter_21 (by decide) ?_
      refine lv_icmp_lt (tgt := 29) C.1 C.2.1 dX11_letter_23 (by decide) (fun c3 => ?_) (fun c3 => ?_)
      · have hD := b_t c3 hD
        refine lv_aload_n C.1 C.2.1 dX11_letter_29 rfl (lv_at hl 0 rfl) ?_
        refine gf_X11_12_0 C hP dX11_letter_30 ?_
        refine lv_iload_n C.1 C.2.1 dX11_letter_33 rfl (lv_at hl 1 rfl) ?_
        obtain ⟨s4, hd4, hD⟩ := bp_some hD
        refine kVv_X (As := [.int x1]) (rest := []) (ci := 3) (q0 := 1) C (c_X3_append l g H.size σ x1 hd4) kw_X11_85 ⟨rfl, rfl⟩ ⟨Nat.le_of_ble_eq_true rfl, Nat.le_of_ble_eq_true rfl⟩ kv_X3_append rfl rfl rfl hl.1 (Nat.le_of_ble_eq_true rfl) ⟨Nat.zero_le _, Nat.zero_le _⟩ dX11_letter_34 hP hS rfl (fun H locs hP hS => ?_)
        refine lv_aload_n C.1 C.2.1 dX11_letter_37 rfl (lv_at hl 0 rfl) ?_
        refine gf_X11_12_0 C hP dX11_letter_38 ?_
        refine gf_X11_81_1 C hP dX11_letter_41 ?_
        cases hD
        exact ri_X C hr hP hS dX11_letter_44
      · have hD := b_f c3 hD
        refine lv_bipush (v := (-104 : Int32)) C.1 C.2.1 dX11_letter_26 (by decide) ?_
        cases hD
        exact ri_X C hr hP hS dX11_letter_28
    · have hD := b_f c2 hD
      refine lv_bipush (v := (-102 : Int32)) C.1 C.2.1 dX11_letter_11 (by decide) ?_
      cases hD
      exact ri_X C hr hP hS dX11_letter_13
abbrev rm_X11_note : Room := { frames := 5, cells := 0, slots := 0, locals := 112 }
set_option maxHeartbeats 4000000 in
set_option maxRecDepth 100000 in
theorem c_X11_note (l : Launch) (g : Gx) (sz : Nat) (N : Nat) (σ : St) (x1 : Int32) (x2 : Int32) (x3 : Int32) {r : Int32} {u : St} (hD : D_X11_note N σ x1 x2 x3 = some (r, u)) : Met l yX11_note (Cond.code yX11_note cX11_note 4 (some .int) :: tb) rm_X11_note (PcX g [.ref (g.2.2 0), .int x1, .int x2, .int x3] σ sz) (QiX g (AX g sz) r u) 0 0 (AX g sz) := by
  refine Met.ofW (cc := cX11_note) (maxL := 4) (ret := some .int) (by decide) rfl ?_
  intro p e s m args below meth c s₁ B hml hv
  have hv0 := hv
  obtain ⟨rfl, hsz, hP, -⟩ := hv
  subst hsz
  have C : CX g (AX g s.heap.size) p s m _ meth c cX11_note 4 RX11 := CX.of B hml (fun w h => List.mem_cons_of_mem _ h) rfl hv0
  have hr := B.returns
  have hS : va_S (AX g s.heap.size) s.heap s.heap [] := va_S.rf
  have hl := lv_entry ([.ref (g.2.2 0), .int x1, .int x2, .int x3]) (n := 4) (Nat.le_of_ble_eq_true rfl)
  rw [lg_entry_eq]
  generalize (lg_sl ([.ref (g.2.2 0), .int x1, .int x2, .int x3]) ++ List.replicate (4 - (lg_sl ([.ref (g.2.2 0), .int x1, .int x2, .int x3])).length) Slot.unset).toArray = ls at hl ⊢
  have hl : lv_has ls 4 [(0, .ref (g.2.2 0)), (1, .int x1), (2, .int x2), (3, .int x3)] := hl
  obtain ⟨H, hH⟩ : ∃ H, H = s.heap := ⟨_, rfl⟩
  have hP : va_P g.1 vwCl (wX g σ) H := by rw [hH]; exact hP
  have hS : va_S (AX g s.heap.size) s.heap H [] := by rw [hH]; exact hS
  refine wH hH ?_
  obtain ⟨locs, hlo⟩ : ∃ locs : List Loc, locs = [] := ⟨_, rfl⟩
  rw [← hlo] at hS
  refine wL hlo ?_
  unfold D_X11_note at hD
  refine lv_aload_n C.1 C.2.1 dX11_note_0 rfl (lv_at hl 0 rfl) ?_
  refine lv_iload_n C.1 C.2.1 dX11_note_1 rfl (lv_at hl 1 rfl) ?_
  obtain ⟨r1, hd1, hD⟩ := bp_some hD
  refine kVi_X (As := [.int x1]) (rest := []) (ci := 11) (q0 := 0) C (c_X11_isRow l g H.size σ x1 hd1) kw_X11_162 ⟨rfl, rfl⟩ ⟨Nat.le_of_ble_eq_true rfl, Nat.le_of_ble_eq_true rfl⟩ kv_X11_isRow rfl rfl rfl hl.1 (Nat.le_of_ble_eq_true rfl) ⟨Nat.zero_le _, Nat.zero_le _⟩ dX11_note_2 hP hS rfl (fun H locs hP hS => ?_)
  refine lv_if_eq (tgt := 16) C.1 C.2.1 dX11_note_5 (by decide) (fun c2 => ?_) (fun c2 => ?_)
  · have hD := b_t c2 hD
    refine lv_bipush (v := (-101 : Int32)) C.1 C.2.1 dX11_note_16 (by decide) ?_
    cases hD
    exact ri_X C hr hP hS dX11_note_18
  · have hD := b_f c2 hD
    refine lv_aload_n C.1 C.2.1 dX11_note_8 rfl (lv_at hl 0 rfl) ?_
    refine lv_iload_n C.1 C.2.1 dX11_note_9 rfl (lv_at hl 2 rfl) ?_
    obtain ⟨r3, hd3, hD⟩ := bp_some hD
    refine kVi_X (As := [.int x2]) (rest := []) (ci := 11) (q0 := 0) C (c_X11_isJudge l g H.size σ x2 hd3) kw_X11_134 ⟨rfl, rfl⟩ ⟨Nat.le_of_ble_eq_true rfl, Nat.le_of_ble_eq_true rfl⟩ kv_X11_isJudge rfl rfl rfl hl.1 (Nat.le_of_ble_eq_true rfl) ⟨Nat.zero_le _, Nat.zero_le _⟩ dX11_note_10 hP hS rfl (fun H locs hP hS => ?_)
    refine lv_if_ne (tgt := 19) C.1 C.2.1 dX11_note_13 (by decide) (fun c4 => ?_) (fun c4 => ?_)
    · have hD := b_f c4 hD
      refine lv_iload_n C.1 C.2.1 dX11_note_19 rfl (lv_at hl 3 rfl) ?_
      refine lv_if_lt (tgt := 29) C.1 C.2.1 dX11_note_20 (by decide) (fun c5 => ?_) (fun c5 => ?_)
      · have hD := b_t c5 hD
        refine lv_bipush (v := (-102 : Int32)) C.1 C.2.1 dX11_note_29 (by decide) ?_
        cases hD
        exact ri_X C hr hP hS dX11_note_31
      · have hD := b_f c5 hD
        refine lv_iload_n C.1 C.2.1 dX11_note_23 rfl (lv_at hl 3 rfl) ?_
        refine lv_bipush (v := (40 : Int32)) C.1 C.2.1 dX11_note_24 (by decide) ?_
        refine lv_icmp_le (tgt := 32) C.1 C.2.1 dX11_note_26 (by decide) (fun c6 => ?_) (fun c6 => ?_)
        · have hD := b_t c6 hD
          refine lv_aload_n C.1 C.2.1 dX11_note_32 rfl (lv_at hl 0 rfl) ?_
          refine gf_X11_42_0 C hP dX11_note_33 ?_
          refine gf_X11_125_10 C hP dX11_note_36 ?_
          refine lv_bipush (v := (12 : Int32)) C.1 C.2.1 dX11_note_39 (by decide) ?_
          refine lv_icmp_lt (tgt := 47) C.1 C.2.1 dX11_note_41 (by decide) (fun c7 => ?_) (fun c7 => ?_)
          · have hD := b_t c7 hD
            refine lv_aload_n C.1 C.2.1 dX11_note_47 rfl (lv_at hl 0 rfl) ?_
            refine gf_X11_42_0 C hP dX11_note_48 ?_
            refine lv_iload_n C.1 C.2.1 dX11_note_51 rfl (lv_at hl 1 rfl) ?_
            refine lv_iload_n C.1 C.2.1 dX11_note_52 rfl (lv_at hl 2 rfl) ?_
            refine lv_iload_n C.1 C.2.1 dX11_note_53 rfl (lv_at hl 3 rfl) ?_
            obtain ⟨s8, hd8, hD⟩ := bp_some hD
            refine kVv_X (As := [.int x1, .int x2, .int x3]) (rest := []) (ci := 0) (q0 := 10) C (c_X0_append l g H.size σ x1 x2 x3 hd8) kw_X11_187 ⟨rfl, rfl⟩ ⟨Nat.le_of_ble_eq_true rfl, Nat.le_of_ble_eq_true rfl⟩ kv_X0_append rfl rfl rfl hl.1 (Nat.le_of_ble_eq_true rfl) ⟨Nat.zero_le _, Nat.zero_le _⟩ dX11_note_54 hP hS rfl (fun H locs hP hS => ?_)
            refine lv_aload_n C.1 C.2.1 dX11_note_57 rfl (lv_at hl 0 rfl) ?_
            obtain ⟨r9, s9, hd9, hD⟩ := bs_some hD
            refine kVi_X (As := []) (rest := []) (ci := 11) (q0 := 0) C (c_X11_gatherFitting l g H.size N s8 hd9) kw_X11_190 ⟨rfl, rfl⟩ ⟨Nat.le_of_ble_eq_true rfl, Nat.le_of_ble_eq_true rfl⟩ kv_X11_gatherFitting rfl rfl rfl hl.1 (Nat.le_of_ble_eq_true rfl) ⟨Nat.zero_le _, Nat.zero_le _⟩ dX11_note_58 hP hS rfl (fun H locs hP hS => ?_)
            cases hD
            exact ri_X C hr hP hS dX11_note_61
          · have hD := b_f c7 hD
            refine lv_bipush (v := (-104 : Int32)) C.1 C.2.1 dX11_note_44 (by decide) ?_
            cases hD
            exact ri_X C hr hP hS dX11_note_46
        · have hD := b_f c6 hD
          refine lv_bipush (v := (-102 : Int32)) C.1 C.2.1 dX11_note_29 (by decide) ?_
          cases hD
          exact ri_X C hr hP hS dX11_note_31
    · have hD := b_t c4 hD
      refine lv_bipush (v := (-101 : Int32)) C.1 C.2.1 dX11_note_16 (by decide) ?_
      cases hD
      exact ri_X C hr hP hS dX11_note_18
abbrev rm_X4_sortsOfRows : Room := { frames := 4, cells := 0, slots := 0, locals := 90 }
set_option maxHeartbeats 4000000 in
set_option maxRecDepth 100000 in
theorem w_J_X4_sortsOfRows_59 (C : CX g A p s m args meth c cX4_sortsOfRows 6 RX4) (hr : meth.sig.returnType = some .int) (N : Nat) (σ : St) {r : Int32} (kc4 : Int32 → Int32 → Option Int32) (k1 : Nat) (x2 : Int32) (x3 : Int32) (x4 : Int32) (hk4 : ∀ (x2 : Int32) (x3 : Int32) (H : Heap) (locs : List Loc) (ls : Array Slot), lv_has ls 6 [(0, .ref (g.2.2 28)), (1, .ref (g.2.2 (4 + k1))), (2, .int x2), (3, .int x3)] → va_P g.1 vwCl (wX g σ) H → va_S A s.heap H locs → kc4 x2 x3 = some r → W p l e rm_X4_sortsOfRows s m args below meth c H locs 0 0 (MQ below (QiX g A r σ) args s 0 0 A) (F0 m 4 ls [])) : ∀  (H : Heap) (locs : List Loc) (ls : Array Slot), lv_has ls 6 [(0, .ref (g.2.2 28)), (1, .ref (g.2.2 (4 + k1))), (2, .int x2), (3, .int x3), (4, .int x4)] → va_P g.1 vwCl (wX g σ) H → va_S A s.heap H locs → J_X4_sortsOfRows_59 N σ kc4 k1 x2 x3 x4 = some r → W p l e rm_X4_sortsOfRows s m args below meth c H locs 0 0 (MQ below (QiX g A r σ) args s 0 0 A) (F0 m 59 ls []) := by
  intro  H locs ls hl hP hS hD
  unfold J_X4_sortsOfRows_59 at hD
  refine lv_iload C.1 C.2.1 dX4_sortsOfRows_59 (lv_at hl 4 rfl) ?_
  refine lv_if_eq (tgt := 67) C.1 C.2.1 dX4_sortsOfRows_61 (by decide) (fun c3 => ?_) (fun c3 => ?_)
  · have hD := b_t c3 hD
    refine lv_iinc (v := x3 + (1 : Int32)) (lv' := [(3, .int (x3 + (1 : Int32))), (0, .ref (g.2.2 28)), (1, .ref (g.2.2 (4 + k1))), (2, .int x2), (4, .int x4)]) C.1 C.2.1 dX4_sortsOfRows_67 hl (k := 3) rfl rfl (by decide) rfl (fun ls hl => ?_)
    refine lv_goto (tgt := 4) C.1 C.2.1 dX4_sortsOfRows_70 (by decide) ?_
    exact hk4 x2 (x3 + (1 : Int32)) H locs ls (lv_sub hl [1, 2, 3, 0] rfl) hP hS hD
  · have hD := b_f c3 hD
    refine lv_iinc (v := x2 + (1 : Int32)) (lv' := [(2, .int (x2 + (1 : Int32))), (0, .ref (g.2.2 28)), (1, .ref (g.2.2 (4 + k1))), (3, .int x3), (4, .int x4)]) C.1 C.2.1 dX4_sortsOfRows_64 hl (k := 2) rfl rfl (by decide) rfl (fun ls hl => ?_)
    refine lv_iinc (v := x3 + (1 : Int32)) (lv' := [(3, .int (x3 + (1 : Int32))), (2, .int (x2 + (1 : Int32))), (0, .ref (g.2.2 28)), (1, .ref (g.2.2 (4 + k1))), (4, .int x4)]) C.1 C.2.1 dX4_sortsOfRows_67 hl (k := 3) rfl rfl (by decide) rfl (fun ls hl => ?_)
    refine lv_goto (tgt := 4) C.1 C.2.1 dX4_sortsOfRows_70 (by decide) ?_
    exact hk4 (x2 + (1 : Int32)) (x3 + (1 : Int32)) H locs ls (lv_sub hl [2, 3, 1, 0] rfl) hP hS hD
set_option maxHeartbeats 4000000 in
set_option maxRecDepth 100000 in
theorem w_L_X4_sortsOfRows_21 (C : CX g A p s m args meth c cX4_sortsOfRows 6 RX4) (hr : meth.sig.returnType = some .int) (N : Nat) (σ : St) {r : Int32} (kc4 : Int32 → Int32 → Option Int32) (k1 : Nat) (x2 : Int32) (x3 : Int32) (hk4 : ∀ (x2 : Int32) (x3 : Int32) (H : Heap) (locs : List Loc) (ls : Array Slot), lv_has ls 6 [(0, .ref (g.2.2 28)), (1, .ref (g.2.2 (4 + k1))), (2, .int x2), (3, .int x3)] → va_P g.1 vwCl (wX g σ) H → va_S A s.heap H locs → kc4 x2 x3 = some r → W p l e rm_X4_sortsOfRows s m args below meth c H locs 0 0 (MQ below (QiX g A r σ) args s 0 0 A) (F0 m 4 ls [])) : ∀ (n : Nat) (x4 : Int32) (x5 : Int32) (H : Heap) (locs : List Loc) (ls : Array Slot), lv_has ls 6 [(0, .ref (g.2.2 28)), (1, .ref (g.2.2 (4 + k1))), (2, .int x2), (3, .int x3), (4, .int x4), (5, .int x5)] → va_P g.1 vwCl (wX g σ) H → va_S A s.heap H locs → L_X4_sortsOfRows_21 N σ kc4 k1 x2 x3 n x4 x5 = some r → W p l e rm_X4_sortsOfRows s m args below meth c H locs 0 0 (MQ below (QiX g A r σ) args s 0 0 A) (F0 m 21 ls []) := by
  intro n
  induction n with
  | zero =>
    intro x4 x5 H locs ls hl hP hS hD
    rw [L_X4_sortsOfRows_21] at hD
    cases hD
  | succ n ih =>
    intro x4 x5 H locs ls hl hP hS hD
    rw [L_X4_sortsOfRows_21] at hD
    refine lv_iload C.1 C.2.1 dX4_sortsOfRows_21 (lv_at hl 5 rfl) ?_
    refine lv_iload_n C.1 C.2.1 dX4_sortsOfRows_23 rfl (lv_at hl 3 rfl) ?_
    refine lv_icmp_ge (tgt := 59) C.1 C.2.1 dX4_sortsOfRows_24 (by decide) (fun c2 => ?_) (fun c2 => ?_)
    · have hD := b_t c2 hD
      exact w_J_X4_sortsOfRows_59 C hr N σ kc4 k1 x2 x3 x4 hk4 H locs ls (lv_sub hl [0, 1, 2, 3, 4] rfl) hP hS hD
    · have hD := b_f c2 hD
      refine lv_iload C.1 C.2.1 dX4_sortsOfRows_27 (lv_at hl 4 rfl) ?_
      refine lv_if_eq (tgt := 59) C.1 C.2.1 dX4_sortsOfRows_29 (by decide) (fun c4 => ?_) (fun c4 => ?_)
      · have hD := b_t c4 hD
        exact w_J_X4_sortsOfRows_59 C hr N σ kc4 k1 x2 x3 x4 hk4 H locs ls (lv_sub hl [0, 1, 2, 3, 4] rfl) hP hS hD
      · have hD := b_f c4 hD
        refine lv_aload_n C.1 C.2.1 dX4_sortsOfRows_32 rfl (lv_at hl 0 rfl) ?_
        refine gf_X4_15_28 C hP dX4_sortsOfRows_33 ?_
        refine lv_aload_n C.1 C.2.1 dX4_sortsOfRows_36 rfl (lv_at hl 1 rfl) ?_
        refine lv_iload C.1 C.2.1 dX4_sortsOfRows_37 (lv_at hl 5 rfl) ?_
        refine lv_iload_n C.1 C.2.1 dX4_sortsOfRows_39 rfl (lv_at hl 3 rfl) ?_
        obtain ⟨r5, hd5, hD⟩ := bp_some hD
        refine kVi_X (As := [.ref (g.2.2 (4 + k1)), .int x5, .int x3]) (rest := []) (ci := 6) (q0 := 20) C (c_X6_areTwins l g H.size N σ k1 x5 x3 hd5) kw_X4_46 ⟨rfl, rfl⟩ ⟨Nat.le_of_ble_eq_true rfl, Nat.le_of_ble_eq_true rfl⟩ kv_X6_areTwins rfl rfl rfl hl.1 (Nat.le_of_ble_eq_true rfl) ⟨Nat.zero_le _, Nat.zero_le _⟩ dX4_sortsOfRows_40 hP hS rfl (fun H locs hP hS => ?_)
        refine lv_if_ne (tgt := 50) C.1 C.2.1 dX4_sortsOfRows_43 (by decide) (fun c6 => ?_) (fun c6 => ?_)
        · have hD := b_f c6 hD
          refine lv_iconst (v := (0 : Int32)) C.1 C.2.1 dX4_sortsOfRows_50 (by decide) ?_
          refine lv_istore (lv' := [(4, .int (0 : Int32)), (0, .ref (g.2.2 28)), (1, .ref (g.2.2 (4 + k1))), (2, .int x2), (3, .int x3), (5, .int x5)]) C.1 C.2.1 dX4_sortsOfRows_51 hl (by decide) rfl (fun ls hl => ?_)
          refine lv_iinc (v := x5 + (1 : Int32)) (lv' := [(5, .int (x5 + (1 : Int32))), (4, .int (0 : Int32)), (0, .ref (g.2.2 28)), (1, .ref (g.2.2 (4 + k1))), (2, .int x2), (3, .int x3)]) C.1 C.2.1 dX4_sortsOfRows_53 hl (k := 5) rfl rfl (by decide) rfl (fun ls hl => ?_)
          refine lv_goto (tgt := 21) C.1 C.2.1 dX4_sortsOfRows_56 (by decide) ?_
          exact ih (0 : Int32) (x5 + (1 : Int32)) H locs ls (lv_sub hl [2, 3, 4, 5, 1, 0] rfl) hP hS hD
        · have hD := b_t c6 hD
          refine lv_iconst (v := (1 : Int32)) C.1 C.2.1 dX4_sortsOfRows_46 (by decide) ?_
          refine lv_goto (tgt := 51) C.1 C.2.1 dX4_sortsOfRows_47 (by decide) ?_
          refine lv_istore (lv' := [(4, .int (1 : Int32)), (0, .ref (g.2.2 28)), (1, .ref (g.2.2 (4 + k1))), (2, .int x2), (3, .int x3), (5, .int x5)]) C.1 C.2.1 dX4_sortsOfRows_51 hl (by decide) rfl (fun ls hl => ?_)
          refine lv_iinc (v := x5 + (1 : Int32)) (lv' := [(5, .int (x5 + (1 : Int32))), (4, .int (1 : Int32)), (0, .ref (g.2.2 28)), (1, .ref (g.2.2 (4 + k1))), (2, .int x2), (3, .int x3)]) C.1 C.2.1 dX4_sortsOfRows_53 hl (k := 5) rfl rfl (by decide) rfl (fun ls hl => ?_)
          refine lv_goto (tgt := 21) C.1 C.2.1 dX4_sortsOfRows_56 (by decide) ?_
          exact ih (1 : Int32) (x5 + (1 : Int32)) H locs ls (lv_sub hl [2, 3, 4, 5, 1, 0] rfl) hP hS hD
set_option maxHeartbeats 4000000 in
set_option maxRecDepth 100000 in
theorem w_L_X4_sortsOfRows_4 (C : CX g A p s m args meth c cX4_sortsOfRows 6 RX4) (hr : meth.sig.returnType = some .int) (N : Nat) (σ : St) {r : Int32} (k1 : Nat) : ∀ (n : Nat) (x2 : Int32) (x3 : Int32) (H : Heap) (locs : List Loc) (ls : Array Slot), lv_has ls 6 [(0, .ref (g.2.2 28)), (1, .ref (g.2.2 (4 + k1))), (2, .int x2), (3, .int x3)] → va_P g.1 vwCl (wX g σ) H → va_S A s.heap H locs → L_X4_sortsOfRows_4 N σ k1 n x2 x3 = some r → W p l e rm_X4_sortsOfRows s m args below meth c H locs 0 0 (MQ below (QiX g A r σ) args s 0 0 A) (F0 m 4 ls []) := by
  intro n
  induction n with
  | zero =>
    intro x2 x3 H locs ls hl hP hS hD
    rw [L_X4_sortsOfRows_4] at hD
    cases hD
  | succ n ih =>
    intro x2 x3 H locs ls hl hP hS hD
    rw [L_X4_sortsOfRows_4] at hD
    refine lv_iload_n C.1 C.2.1 dX4_sortsOfRows_4 rfl (lv_at hl 3 rfl) ?_
    refine lv_aload_n C.1 C.2.1 dX4_sortsOfRows_5 rfl (lv_at hl 0 rfl) ?_
    refine gf_X4_15_28 C hP dX4_sortsOfRows_6 ?_
    refine gf_X4_23_20 C hP dX4_sortsOfRows_9 ?_
    refine lv_icmp_ge (tgt := 73) C.1 C.2.1 dX4_sortsOfRows_12 (by decide) (fun c1 => ?_) (fun c1 => ?_)
    · have hD := b_t c1 hD
      refine lv_iload_n C.1 C.2.1 dX4_sortsOfRows_73 rfl (lv_at hl 2 rfl) ?_
      cases hD
      exact ri_X C hr hP hS dX4_sortsOfRows_74
    · have hD := b_f c1 hD
      refine lv_iconst (v := (1 : Int32)) C.1 C.2.1 dX4_sortsOfRows_15 (by decide) ?_
      refine lv_istore (lv' := [(4, .int (1 : Int32)), (0, .ref (g.2.2 28)), (1, .ref (g.2.2 (4 + k1))), (2, .int x2), (3, .int x3)]) C.1 C.2.1 dX4_sortsOfRows_16 hl (by decide) rfl (fun ls hl => ?_)
      refine lv_iconst (v := (0 : Int32)) C.1 C.2.1 dX4_sortsOfRows_18 (by decide) ?_
      refine lv_istore (lv' := [(5, .int (0 : Int32)), (4, .int (1 : Int32)), (0, .ref (g.2.2 28)), (1, .ref (g.2.2 (4 + k1))), (2, .int x2), (3, .int x3)]) C.1 C.2.1 dX4_sortsOfRows_19 hl (by decide) rfl (fun ls hl => ?_)
      exact w_L_X4_sortsOfRows_21 C hr N σ (L_X4_sortsOfRows_4 N σ k1 n) k1 x2 x3 ih N (1 : Int32) (0 : Int32) H locs ls (lv_sub hl [2, 3, 4, 5, 1, 0] rfl) hP hS hD
set_option maxHeartbeats 4000000 in
set_option maxRecDepth 100000 in
theorem c_X4_sortsOfRows (l : Launch) (g : Gx) (sz : Nat) (N : Nat) (σ : St) (k1 : Nat) {r : Int32} (hD : D_X4_sortsOfRows N σ k1 = some r) : Met l yX4_sortsOfRows (Cond.code yX4_sortsOfRows cX4_sortsOfRows 6 (some .int) :: tb) rm_X4_sortsOfRows (PcX g [.ref (g.2.2 28), .ref (g.2.2 (4 + k1))] σ sz) (QiX g (AX g sz) r σ) 0 0 (AX g sz) := by
  refine Met.ofW (cc := cX4_sortsOfRows) (maxL := 6) (ret := some .int) (by decide) rfl ?_
  intro p e s m args below meth c s₁ B hml hv
  have hv0 := hv
  obtain ⟨rfl, hsz, hP, -⟩ := hv
  subst hsz
  have C : CX g (AX g s.heap.size) p s m _ meth c cX4_sortsOfRows 6 RX4 := CX.of B hml (fun w h => List.mem_cons_of_mem _ h) rfl hv0
  have hr := B.returns
  have hS : va_S (AX g s.heap.size) s.heap s.heap [] := va_S.rf
  have hl := lv_entry ([.ref (g.2.2 28), .ref (g.2.2 (4 + k1))]) (n := 6) (Nat.le_of_ble_eq_true rfl)
  rw [lg_entry_eq]
  generalize (lg_sl ([.ref (g.2.2 28), .ref (g.2.2 (4 + k1))]) ++ List.replicate (6 - (lg_sl ([.ref (g.2.2 28), .ref (g.2.2 (4 + k1))])).length) Slot.unset).toArray = ls at hl ⊢
  have hl : lv_has ls 6 [(0, .ref (g.2.2 28)), (1, .ref (g.2.2 (4 + k1)))] := hl
  obtain ⟨H, hH⟩ : ∃ H, H = s.heap := ⟨_, rfl⟩
  have hP : va_P g.1 vwCl (wX g σ) H := by rw [hH]; exact hP
  have hS : va_S (AX g s.heap.size) s.heap H [] := by rw [hH]; exact hS
  refine wH hH ?_
  obtain ⟨locs, hlo⟩ : ∃ locs : List Loc, locs = [] := ⟨_, rfl⟩
  rw [← hlo] at hS
  refine wL hlo ?_
  unfold D_X4_sortsOfRows at hD
  refine lv_iconst (v := (0 : Int32)) C.1 C.2.1 dX4_sortsOfRows_0 (by decide) ?_
  refine lv_istore_n (lv' := [(2, .int (0 : Int32)), (0, .ref (g.2.2 28)), (1, .ref (g.2.2 (4 + k1)))]) C.1 C.2.1 dX4_sortsOfRows_1 rfl hl (by decide) rfl (fun ls hl => ?_)
  refine lv_iconst (v := (0 : Int32)) C.1 C.2.1 dX4_sortsOfRows_2 (by decide) ?_
  refine lv_istore_n (lv' := [(3, .int (0 : Int32)), (2, .int (0 : Int32)), (0, .ref (g.2.2 28)), (1, .ref (g.2.2 (4 + k1)))]) C.1 C.2.1 dX4_sortsOfRows_3 rfl hl (by decide) rfl (fun ls hl => ?_)
  exact w_L_X4_sortsOfRows_4 C hr N σ k1 N (0 : Int32) (0 : Int32) H locs ls (lv_sub hl [2, 3, 1, 0] rfl) hP hS hD
abbrev rm_X4_partsBy : Room := { frames := 3, cells := 0, slots := 0, locals := 65 }
set_option maxHeartbeats 4000000 in
set_option maxRecDepth 100000 in
theorem w_L_X4_partsBy_16 (C : CX g A p s m args meth c cX4_partsBy 7 RX4) (hr : meth.sig.returnType = some .int) (N : Nat) {r : Int32} {u : St} (k1 : Nat) (x2 : Int32) (x3 : Int32) : ∀ (n : Nat) (x4 : Int32) (x5 : Int32) (σ : St) (H : Heap) (locs : List Loc) (ls : Array Slot), lv_has ls 7 [(0, .ref (g.2.2 28)), (1, .ref (g.2.2 (4 + k1))), (2, .int x2), (3, .int x3), (4, .int x4), (5, .int x5)] → va_P g.1 vwCl (wX g σ) H → va_S A s.heap H locs → L_X4_partsBy_16 N k1 x2 x3 n x4 x5 σ = some (r, u) → W p l e rm_X4_partsBy s m args below meth c H locs 0 0 (MQ below (QiX g A r u) args s 0 0 A) (F0 m 16 ls []) := by
  intro n
  induction n with
  | zero =>
    intro x4 x5 σ H locs ls hl hP hS hD
    rw [L_X4_partsBy_16] at hD
    cases hD
  | succ n ih =>
    intro x4 x5 σ H locs ls hl hP hS hD
    rw [L_X4_partsBy_16] at hD
    refine lv_iload C.1 C.2.1 dX4_partsBy_16 (lv_at hl 5 rfl) ?_
    refine lv_aload_n C.1 C.2.1 dX4_partsBy_18 rfl (lv_at hl 0 rfl) ?_
    refine gf_X4_15_28 C hP dX4_partsBy_19 ?_
    refine gf_X4_23_20 C hP dX4_partsBy_22 ?_
    refine lv_icmp_ge (tgt := 105) C.1 C.2.1 dX4_partsBy_25 (by decide) (fun c1 => ?_) (fun c1 => ?_)
    · have hD := b_t c1 hD
      refine lv_iload C.1 C.2.1 dX4_partsBy_105 (lv_at hl 4 rfl) ?_
      cases hD
      exact ri_X C hr hP hS dX4_partsBy_107
    · have hD := b_f c1 hD
      refine lv_aload_n C.1 C.2.1 dX4_partsBy_28 rfl (lv_at hl 1 rfl) ?_
      refine lv_aload_n C.1 C.2.1 dX4_partsBy_29 rfl (lv_at hl 0 rfl) ?_
      refine gf_X4_15_28 C hP dX4_partsBy_30 ?_
      refine lv_iload_n C.1 C.2.1 dX4_partsBy_33 rfl (lv_at hl 2 rfl) ?_
      refine lv_iload C.1 C.2.1 dX4_partsBy_34 (lv_at hl 5 rfl) ?_
      obtain ⟨r2, hd2, hD⟩ := bp_some hD
      refine kW_X4_53 C hd2 ⟨Nat.le_of_ble_eq_true rfl, Nat.le_of_ble_eq_true rfl⟩ hl.1 (Nat.le_of_ble_eq_true rfl) ⟨Nat.zero_le _, Nat.zero_le _⟩ dX4_partsBy_36 hP hS (fun H locs hP hS => ?_)
      refine lv_bipush (v := (31 : Int32)) C.1 C.2.1 dX4_partsBy_39 (by decide) ?_
      refine lv_imul C.1 C.2.1 dX4_partsBy_41 ?_
      refine lv_aload_n C.1 C.2.1 dX4_partsBy_42 rfl (lv_at hl 1 rfl) ?_
      refine lv_aload_n C.1 C.2.1 dX4_partsBy_43 rfl (lv_at hl 0 rfl) ?_
      refine gf_X4_15_28 C hP dX4_partsBy_44 ?_
      refine lv_iload_n C.1 C.2.1 dX4_partsBy_47 rfl (lv_at hl 3 rfl) ?_
      refine lv_iload C.1 C.2.1 dX4_partsBy_48 (lv_at hl 5 rfl) ?_
      obtain ⟨r3, hd3, hD⟩ := bp_some hD
      refine kW_X4_53 C hd3 ⟨Nat.le_of_ble_eq_true rfl, Nat.le_of_ble_eq_true rfl⟩ hl.1 (Nat.le_of_ble_eq_true rfl) ⟨Nat.zero_le _, Nat.zero_le _⟩ dX4_partsBy_50 hP hS (fun H locs hP hS => ?_)
      refine lv_iadd C.1 C.2.1 dX4_partsBy_53 ?_
      refine lv_istore (lv' := [(6, .int ((r2 * (31 : Int32)) + r3)), (0, .ref (g.2.2 28)), (1, .ref (g.2.2 (4 + k1))), (2, .int x2), (3, .int x3), (4, .int x4), (5, .int x5)]) C.1 C.2.1 dX4_partsBy_54 hl (by decide) rfl (fun ls hl => ?_)
      refine lv_iload C.1 C.2.1 dX4_partsBy_56 (lv_at hl 0 rfl) ?_
      refine lv_if_lt (tgt := 99) C.1 C.2.1 dX4_partsBy_58 (by decide) (fun c4 => ?_) (fun c4 => ?_)
      · have hD := b_t c4 hD
        refine lv_iinc (v := x5 + (1 : Int32)) (lv' := [(5, .int (x5 + (1 : Int32))), (6, .int ((r2 * (31 : Int32)) + r3)), (0, .ref (g.2.2 28)), (1, .ref (g.2.2 (4 + k1))), (2, .int x2), (3, .int x3), (4, .int x4)]) C.1 C.2.1 dX4_partsBy_99 hl (k := 6) rfl rfl (by decide) rfl (fun ls hl => ?_)
        refine lv_goto (tgt := 16) C.1 C.2.1 dX4_partsBy_102 (by decide) ?_
        exact ih x4 (x5 + (1 : Int32)) σ H locs ls (lv_sub hl [2, 3, 4, 5, 6, 0] rfl) hP hS hD
      · have hD := b_f c4 hD
        refine lv_iload C.1 C.2.1 dX4_partsBy_61 (lv_at hl 0 rfl) ?_
        refine lv_aload_n C.1 C.2.1 dX4_partsBy_63 rfl (lv_at hl 1 rfl) ?_
        refine gf_X4_9_28 C hP dX4_partsBy_64 ?_
        refine alX C hP 29 (v := (961 : Int32)) rfl (by decide) dX4_partsBy_67 ?_
        refine lv_icmp_ge (tgt := 99) C.1 C.2.1 dX4_partsBy_68 (by decide) (fun c5 => ?_) (fun c5 => ?_)
        · have hD := b_t c5 hD
          refine lv_iinc (v := x5 + (1 : Int32)) (lv' := [(5, .int (x5 + (1 : Int32))), (6, .int ((r2 * (31 : Int32)) + r3)), (0, .ref (g.2.2 28)), (1, .ref (g.2.2 (4 + k1))), (2, .int x2), (3, .int x3), (4, .int x4)]) C.1 C.2.1 dX4_partsBy_99 hl (k := 6) rfl rfl (by decide) rfl (fun ls hl => ?_)
          refine lv_goto (tgt := 16) C.1 C.2.1 dX4_partsBy_102 (by decide) ?_
          exact ih x4 (x5 + (1 : Int32)) σ H locs ls (lv_sub hl [2, 3, 4, 5, 6, 0] rfl) hP hS hD
        · have hD := b_f c5 hD
          refine lv_aload_n C.1 C.2.1 dX4_partsBy_71 rfl (lv_at hl 1 rfl) ?_
          refine gf_X4_9_28 C hP dX4_partsBy_72 ?_
          refine lv_iload C.1 C.2.1 dX4_partsBy_75 (lv_at hl 0 rfl) ?_
          obtain ⟨hi6, hD⟩ := gi_some hD
          refine iaX C hP 29 rfl hi6 dX4_partsBy_77 ?_
          refine lv_aload_n C.1 C.2.1 dX4_partsBy_78 rfl (lv_at hl 1 rfl) ?_
          refine gf_X4_50_28 C hP dX4_partsBy_79 ?_
          refine lv_icmp_eq (tgt := 99) C.1 C.2.1 dX4_partsBy_82 (by decide) (fun c7 => ?_) (fun c7 => ?_)
          · have hD := b_t c7 hD
            refine lv_iinc (v := x5 + (1 : Int32)) (lv' := [(5, .int (x5 + (1 : Int32))), (6, .int ((r2 * (31 : Int32)) + r3)), (0, .ref (g.2.2 28)), (1, .ref (g.2.2 (4 + k1))), (2, .int x2), (3, .int x3), (4, .int x4)]) C.1 C.2.1 dX4_partsBy_99 hl (k := 6) rfl rfl (by decide) rfl (fun ls hl => ?_)
            refine lv_goto (tgt := 16) C.1 C.2.1 dX4_partsBy_102 (by decide) ?_
            exact ih x4 (x5 + (1 : Int32)) σ H locs ls (lv_sub hl [2, 3, 4, 5, 6, 0] rfl) hP hS hD
          · have hD := b_f c7 hD
            refine lv_aload_n C.1 C.2.1 dX4_partsBy_85 rfl (lv_at hl 1 rfl) ?_
            refine gf_X4_9_28 C hP dX4_partsBy_86 ?_
            refine lv_iload C.1 C.2.1 dX4_partsBy_89 (lv_at hl 0 rfl) ?_
            refine lv_aload_n C.1 C.2.1 dX4_partsBy_91 rfl (lv_at hl 1 rfl) ?_
            refine gf_X4_50_28 C hP dX4_partsBy_92 ?_
            obtain ⟨hi8, hD⟩ := gi_some hD
            refine isX C hP hS 29 rfl hi8 dX4_partsBy_95 st_29 (fun H locs hP hS => ?_)
            refine lv_iinc (v := x4 + (1 : Int32)) (lv' := [(4, .int (x4 + (1 : Int32))), (6, .int ((r2 * (31 : Int32)) + r3)), (0, .ref (g.2.2 28)), (1, .ref (g.2.2 (4 + k1))), (2, .int x2), (3, .int x3), (5, .int x5)]) C.1 C.2.1 dX4_partsBy_96 hl (k := 5) rfl rfl (by decide) rfl (fun ls hl => ?_)
            refine lv_iinc (v := x5 + (1 : Int32)) (lv' := [(5, .int (x5 + (1 : Int32))), (4, .int (x4 + (1 : Int32))), (6, .int ((r2 * (31 : Int32)) + r3)), (0, .ref (g.2.2 28)), (1, .ref (g.2.2 (4 + k1))), (2, .int x2), (3, .int x3)]) C.1 C.2.1 dX4_partsBy_99 hl (k := 6) rfl rfl (by decide) rfl (fun ls hl => ?_)
            refine lv_goto (tgt := 16) C.1 C.2.1 dX4_partsBy_102 (by decide) ?_
            exact ih (x4 + (1 : Int32)) (x5 + (1 : Int32)) (pt σ 29 (((r2 * (31 : Int32)) + r3).toNatClampNeg) (σ 28 2)) H locs ls (lv_sub hl [3, 4, 5, 6, 1, 0] rfl) hP hS hD
set_option maxHeartbeats 4000000 in
set_option maxRecDepth 100000 in
theorem c_X4_partsBy (l : Launch) (g : Gx) (sz : Nat) (N : Nat) (σ : St) (k1 : Nat) (x2 : Int32) (x3 : Int32) {r : Int32} {u : St} (hD : D_X4_partsBy N σ k1 x2 x3 = some (r, u)) : Met l yX4_partsBy (Cond.code yX4_partsBy cX4_partsBy 7 (some .int) :: tb) rm_X4_partsBy (PcX g [.ref (g.2.2 28), .ref (g.2.2 (4 + k1)), .int x2, .int x3] σ sz) (QiX g (AX g sz) r u) 0 0 (AX g sz) := by
  refine Met.ofW (cc := cX4_partsBy) (maxL := 7) (ret := some .int) (by decide) rfl ?_
  intro p e s m args below meth c s₁ B hml hv
  have hv0 := hv
  obtain ⟨rfl, hsz, hP, -⟩ := hv
  subst hsz
  have C : CX g (AX g s.heap.size) p s m _ meth c cX4_partsBy 7 RX4 := CX.of B hml (fun w h => List.mem_cons_of_mem _ h) rfl hv0
  have hr := B.returns
  have hS : va_S (AX g s.heap.size) s.heap s.heap [] := va_S.rf
  have hl := lv_entry ([.ref (g.2.2 28), .ref (g.2.2 (4 + k1)), .int x2, .int x3]) (n := 7) (Nat.le_of_ble_eq_true rfl)
  rw [lg_entry_eq]
  generalize (lg_sl ([.ref (g.2.2 28), .ref (g.2.2 (4 + k1)), .int x2, .int x3]) ++ List.replicate (7 - (lg_sl ([.ref (g.2.2 28), .ref (g.2.2 (4 + k1)), .int x2, .int x3])).length) Slot.unset).toArray = ls at hl ⊢
  have hl : lv_has ls 7 [(0, .ref (g.2.2 28)), (1, .ref (g.2.2 (4 + k1))), (2, .int x2), (3, .int x3)] := hl
  obtain ⟨H, hH⟩ : ∃ H, H = s.heap := ⟨_, rfl⟩
  have hP : va_P g.1 vwCl (wX g σ) H := by rw [hH]; exact hP
  have hS : va_S (AX g s.heap.size) s.heap H [] := by rw [hH]; exact hS
  refine wH hH ?_
  obtain ⟨locs, hlo⟩ : ∃ locs : List Loc, locs = [] := ⟨_, rfl⟩
  rw [← hlo] at hS
  refine wL hlo ?_
  unfold D_X4_partsBy at hD
  refine lv_aload_n C.1 C.2.1 dX4_partsBy_0 rfl (lv_at hl 0 rfl) ?_
  refine lv_dup C.1 C.2.1 dX4_partsBy_1 rfl ?_
  refine gf_X4_50_28 C hP dX4_partsBy_2 ?_
  refine lv_iconst (v := (1 : Int32)) C.1 C.2.1 dX4_partsBy_5 (by decide) ?_
  refine lv_iadd C.1 C.2.1 dX4_partsBy_6 ?_
  refine pf_X4_50_28 C hP hS dX4_partsBy_7 (fun H locs hP hS => ?_)
  refine lv_iconst (v := (0 : Int32)) C.1 C.2.1 dX4_partsBy_10 (by decide) ?_
  refine lv_istore (lv' := [(4, .int (0 : Int32)), (0, .ref (g.2.2 28)), (1, .ref (g.2.2 (4 + k1))), (2, .int x2), (3, .int x3)]) C.1 C.2.1 dX4_partsBy_11 hl (by decide) rfl (fun ls hl => ?_)
  refine lv_iconst (v := (0 : Int32)) C.1 C.2.1 dX4_partsBy_13 (by decide) ?_
  refine lv_istore (lv' := [(5, .int (0 : Int32)), (4, .int (0 : Int32)), (0, .ref (g.2.2 28)), (1, .ref (g.2.2 (4 + k1))), (2, .int x2), (3, .int x3)]) C.1 C.2.1 dX4_partsBy_14 hl (by decide) rfl (fun ls hl => ?_)
  exact w_L_X4_partsBy_16 C hr N k1 x2 x3 N (0 : Int32) (0 : Int32) (pt σ 28 2 ((σ 28 2) + (1 : Int32))) H locs ls (lv_sub hl [2, 3, 4, 5, 1, 0] rfl) hP hS hD
abbrev rm_X4_answer : Room := { frames := 0, cells := 0, slots := 0, locals := 0 }
set_option maxHeartbeats 4000000 in
set_option maxRecDepth 100000 in
theorem c_X4_answer (l : Launch) (g : Gx) (sz : Nat) (σ : St) (x1 : Int32) (x2 : Int32) (x3 : Int32) {u : St} (hD : D_X4_answer σ x1 x2 x3 = some u) : Met l yX4_answer (Cond.code yX4_answer cX4_answer 4 (none) :: tb) rm_X4_answer (PcX g [.ref (g.2.2 28), .int x1, .int x2, .int x3] σ sz) (QvX g (AX g sz) u) 0 0 (AX g sz) := by
  refine Met.ofW (cc := cX4_answer) (maxL := 4) (ret := none) (by decide) rfl ?_
  intro p e s m args below meth c s₁ B hml hv
  have hv0 := hv
  obtain ⟨rfl, hsz, hP, -⟩ := hv
  subst hsz
  have C : CX g (AX g s.heap.size) p s m _ meth c cX4_answer 4 RX4 := CX.of B hml (fun w h => List.mem_cons_of_mem _ h) rfl hv0
  have hr := B.returns
  have hS : va_S (AX g s.heap.size) s.heap s.heap [] := va_S.rf
  have hl := lv_entry ([.ref (g.2.2 28), .int x1, .int x2, .int x3]) (n := 4) (Nat.le_of_ble_eq_true rfl)
  rw [lg_entry_eq]
  generalize (lg_sl ([.ref (g.2.2 28), .int x1, .int x2, .int x3]) ++ List.replicate (4 - (lg_sl ([.ref (g.2.2 28), .int x1, .int x2, .int x3])).length) Slot.unset).toArray = ls at hl ⊢
  have hl : lv_has ls 4 [(0, .ref (g.2.2 28)), (1, .int x1), (2, .int x2), (3, .int x3)] := hl
  obtain ⟨H, hH⟩ : ∃ H, H = s.heap := ⟨_, rfl⟩
  have hP : va_P g.1 vwCl (wX g σ) H := by rw [hH]; exact hP
  have hS : va_S (AX g s.heap.size) s.heap H [] := by rw [hH]; exact hS
  refine wH hH ?_
  obtain ⟨locs, hlo⟩ : ∃ locs : List Loc, locs = [] := ⟨_, rfl⟩
  rw [← hlo] at hS
  refine wL hlo ?_
  unfold D_X4_answer at hD
  refine lv_aload_n C.1 C.2.1 dX4_answer_0 rfl (lv_at hl 0 rfl) ?_
  refine lv_iload_n C.1 C.2.1 dX4_answer_1 rfl (lv_at hl 1 rfl) ?_
  refine pf_X4_37_28 C hP hS dX4_answer_2 (fun H locs hP hS => ?_)
  refine lv_aload_n C.1 C.2.1 dX4_answer_5 rfl (lv_at hl 0 rfl) ?_
  refine lv_iload_n C.1 C.2.1 dX4_answer_6 rfl (lv_at hl 2 rfl) ?_
  refine pf_X4_40_28 C hP hS dX4_answer_7 (fun H locs hP hS => ?_)
  refine lv_aload_n C.1 C.2.1 dX4_answer_10 rfl (lv_at hl 0 rfl) ?_
  refine lv_iload_n C.1 C.2.1 dX4_answer_11 rfl (lv_at hl 3 rfl) ?_
  refine pf_X4_43_28 C hP hS dX4_answer_12 (fun H locs hP hS => ?_)
  cases hD
  exact rv_X C hr hP hS dX4_answer_15
abbrev rm_X4_find : Room := { frames := 5, cells := 0, slots := 0, locals := 115 }
set_option maxHeartbeats 4000000 in
set_option maxRecDepth 100000 in
theorem w_L_X4_find_62 (C : CX g A p s m args meth c cX4_find 5 RX4) (hr : meth.sig.returnType = none) (N : Nat) {u : St} (kc46 : Int32 → St → Option St) (k1 : Nat) (x2 : Int32) (x3 : Int32) (hk46 : ∀ (x3 : Int32) (σ : St) (H : Heap) (locs : List Loc) (ls : Array Slot), lv_has ls 5 [(0, .ref (g.2.2 28)), (1, .ref (g.2.2 (4 + k1))), (2, .int x2), (3, .int x3)] → va_P g.1 vwCl (wX g σ) H → va_S A s.heap H locs → kc46 x3 σ = some u → W p l e rm_X4_find s m args below meth c H locs 0 0 (MQ below (QvX g A u) args s 0 0 A) (F0 m 46 ls [])) : ∀ (n : Nat) (x4 : Int32) (σ : St) (H : Heap) (locs : List Loc) (ls : Array Slot), lv_has ls 5 [(0, .ref (g.2.2 28)), (1, .ref (g.2.2 (4 + k1))), (2, .int x2), (3, .int x3), (4, .int x4)] → va_P g.1 vwCl (wX g σ) H → va_S A s.heap H locs → L_X4_find_62 N kc46 k1 x2 x3 n x4 σ = some u → W p l e rm_X4_find s m args below meth c H locs 0 0 (MQ below (QvX g A u) args s 0 0 A) (F0 m 62 ls []) := by
  intro n
  induction n with
  | zero =>
    intro x4 σ H locs ls hl hP hS hD
    rw [L_X4_find_62] at hD
    cases hD
  | succ n ih =>
    intro x4 σ H locs ls hl hP hS hD
    rw [L_X4_find_62] at hD
    refine lv_iload C.1 C.2.1 dX4_find_62 (lv_at hl 4 rfl) ?_
    refine lv_aload_n C.1 C.2.1 dX4_find_64 rfl (lv_at hl 0 rfl) ?_
    refine gf_X4_15_28 C hP dX4_find_65 ?_
    refine gf_X4_23_20 C hP dX4_find_68 ?_
    refine lv_icmp_ge (tgt := 101) C.1 C.2.1 dX4_find_71 (by decide) (fun c5 => ?_) (fun c5 => ?_)
    · have hD := b_t c5 hD
      refine lv_iinc (v := x3 + (1 : Int32)) (lv' := [(3, .int (x3 + (1 : Int32))), (0, .ref (g.2.2 28)), (1, .ref (g.2.2 (4 + k1))), (2, .int x2), (4, .int x4)]) C.1 C.2.1 dX4_find_101 hl (k := 3) rfl rfl (by decide) rfl (fun ls hl => ?_)
      refine lv_goto (tgt := 46) C.1 C.2.1 dX4_find_104 (by decide) ?_
      exact hk46 (x3 + (1 : Int32)) σ H locs ls (lv_sub hl [1, 2, 3, 0] rfl) hP hS hD
    · have hD := b_f c5 hD
      refine lv_aload_n C.1 C.2.1 dX4_find_74 rfl (lv_at hl 0 rfl) ?_
      refine lv_aload_n C.1 C.2.1 dX4_find_75 rfl (lv_at hl 1 rfl) ?_
      refine lv_iload_n C.1 C.2.1 dX4_find_76 rfl (lv_at hl 3 rfl) ?_
      refine lv_iload C.1 C.2.1 dX4_find_77 (lv_at hl 4 rfl) ?_
      obtain ⟨r6, s6, hd6, hD⟩ := bs_some hD
      refine kVi_X (As := [.ref (g.2.2 (4 + k1)), .int x3, .int x4]) (rest := []) (ci := 4) (q0 := 28) C (c_X4_partsBy l g H.size N σ k1 x3 x4 hd6) kw_X4_29 ⟨rfl, rfl⟩ ⟨Nat.le_of_ble_eq_true rfl, Nat.le_of_ble_eq_true rfl⟩ kv_X4_partsBy rfl rfl rfl hl.1 (Nat.le_of_ble_eq_true rfl) ⟨Nat.zero_le _, Nat.zero_le _⟩ dX4_find_79 hP hS rfl (fun H locs hP hS => ?_)
      refine lv_iload_n C.1 C.2.1 dX4_find_82 rfl (lv_at hl 2 rfl) ?_
      refine lv_icmp_ne (tgt := 95) C.1 C.2.1 dX4_find_83 (by decide) (fun c7 => ?_) (fun c7 => ?_)
      · have hD := b_f c7 hD
        refine lv_iinc (v := x4 + (1 : Int32)) (lv' := [(4, .int (x4 + (1 : Int32))), (0, .ref (g.2.2 28)), (1, .ref (g.2.2 (4 + k1))), (2, .int x2), (3, .int x3)]) C.1 C.2.1 dX4_find_95 hl (k := 4) rfl rfl (by decide) rfl (fun ls hl => ?_)
        refine lv_goto (tgt := 62) C.1 C.2.1 dX4_find_98 (by decide) ?_
        exact ih (x4 + (1 : Int32)) s6 H locs ls (lv_sub hl [1, 2, 3, 4, 0] rfl) hP hS hD
      · have hD := b_t c7 hD
        refine lv_aload_n C.1 C.2.1 dX4_find_86 rfl (lv_at hl 0 rfl) ?_
        refine lv_iconst (v := (2 : Int32)) C.1 C.2.1 dX4_find_87 (by decide) ?_
        refine lv_iload_n C.1 C.2.1 dX4_find_88 rfl (lv_at hl 3 rfl) ?_
        refine lv_iload C.1 C.2.1 dX4_find_89 (lv_at hl 4 rfl) ?_
        obtain ⟨s8, hd8, hD⟩ := bp_some hD
        refine kVv_X (As := [.int (2 : Int32), .int x3, .int x4]) (rest := []) (ci := 4) (q0 := 28) C (c_X4_answer l g H.size s6 (2 : Int32) x3 x4 hd8) kw_X4_33 ⟨rfl, rfl⟩ ⟨Nat.le_of_ble_eq_true rfl, Nat.le_of_ble_eq_true rfl⟩ kv_X4_answer rfl rfl rfl hl.1 (Nat.le_of_ble_eq_true rfl) ⟨Nat.zero_le _, Nat.zero_le _⟩ dX4_find_91 hP hS rfl (fun H locs hP hS => ?_)
        cases hD
        exact rv_X C hr hP hS dX4_find_94
set_option maxHeartbeats 4000000 in
set_option maxRecDepth 100000 in
theorem w_L_X4_find_46 (C : CX g A p s m args meth c cX4_find 5 RX4) (hr : meth.sig.returnType = none) (N : Nat) {u : St} (k1 : Nat) (x2 : Int32) : ∀ (n : Nat) (x3 : Int32) (σ : St) (H : Heap) (locs : List Loc) (ls : Array Slot), lv_has ls 5 [(0, .ref (g.2.2 28)), (1, .ref (g.2.2 (4 + k1))), (2, .int x2), (3, .int x3)] → va_P g.1 vwCl (wX g σ) H → va_S A s.heap H locs → L_X4_find_46 N k1 x2 n x3 σ = some u → W p l e rm_X4_find s m args below meth c H locs 0 0 (MQ below (QvX g A u) args s 0 0 A) (F0 m 46 ls []) := by
  intro n
  induction n with
  | zero =>
    intro x3 σ H locs ls hl hP hS hD
    rw [L_X4_find_46] at hD
    cases hD
  | succ n ih =>
    intro x3 σ H locs ls hl hP hS hD
    rw [L_X4_find_46] at hD
    refine lv_iload_n C.1 C.2.1 dX4_find_46 rfl (lv_at hl 3 rfl) ?_
    refine lv_aload_n C.1 C.2.1 dX4_find_47 rfl (lv_at hl 0 rfl) ?_
    refine gf_X4_15_28 C hP dX4_find_48 ?_
    refine gf_X4_23_20 C hP dX4_find_51 ?_
    refine lv_icmp_ge (tgt := 107) C.1 C.2.1 dX4_find_54 (by decide) (fun c3 => ?_) (fun c3 => ?_)
    · have hD := b_t c3 hD
      refine lv_aload_n C.1 C.2.1 dX4_find_107 rfl (lv_at hl 0 rfl) ?_
      refine lv_iconst (v := (-1 : Int32)) C.1 C.2.1 dX4_find_108 (by decide) ?_
      refine lv_iconst (v := (-1 : Int32)) C.1 C.2.1 dX4_find_109 (by decide) ?_
      refine lv_iconst (v := (-1 : Int32)) C.1 C.2.1 dX4_find_110 (by decide) ?_
      obtain ⟨s4, hd4, hD⟩ := bp_some hD
      refine kVv_X (As := [.int (-1 : Int32), .int (-1 : Int32), .int (-1 : Int32)]) (rest := []) (ci := 4) (q0 := 28) C (c_X4_answer l g H.size σ (-1 : Int32) (-1 : Int32) (-1 : Int32) hd4) kw_X4_33 ⟨rfl, rfl⟩ ⟨Nat.le_of_ble_eq_true rfl, Nat.le_of_ble_eq_true rfl⟩ kv_X4_answer rfl rfl rfl hl.1 (Nat.le_of_ble_eq_true rfl) ⟨Nat.zero_le _, Nat.zero_le _⟩ dX4_find_111 hP hS rfl (fun H locs hP hS => ?_)
      cases hD
      exact rv_X C hr hP hS dX4_find_114
    · have hD := b_f c3 hD
      refine lv_iload_n C.1 C.2.1 dX4_find_57 rfl (lv_at hl 3 rfl) ?_
      refine lv_iconst (v := (1 : Int32)) C.1 C.2.1 dX4_find_58 (by decide) ?_
      refine lv_iadd C.1 C.2.1 dX4_find_59 ?_
      refine lv_istore (lv' := [(4, .int (x3 + (1 : Int32))), (0, .ref (g.2.2 28)), (1, .ref (g.2.2 (4 + k1))), (2, .int x2), (3, .int x3)]) C.1 C.2.1 dX4_find_60 hl (by decide) rfl (fun ls hl => ?_)
      exact w_L_X4_find_62 C hr N (L_X4_find_46 N k1 x2 n) k1 x2 x3 ih N (x3 + (1 : Int32)) σ H locs ls (lv_sub hl [1, 2, 3, 4, 0] rfl) hP hS hD
set_option maxHeartbeats 4000000 in
set_option maxRecDepth 100000 in
theorem w_L_X4_find_8 (C : CX g A p s m args meth c cX4_find 5 RX4) (hr : meth.sig.returnType = none) (N : Nat) {u : St} (k1 : Nat) (x2 : Int32) : ∀ (n : Nat) (x3 : Int32) (σ : St) (H : Heap) (locs : List Loc) (ls : Array Slot), lv_has ls 5 [(0, .ref (g.2.2 28)), (1, .ref (g.2.2 (4 + k1))), (2, .int x2), (3, .int x3)] → va_P g.1 vwCl (wX g σ) H → va_S A s.heap H locs → L_X4_find_8 N k1 x2 n x3 σ = some u → W p l e rm_X4_find s m args below meth c H locs 0 0 (MQ below (QvX g A u) args s 0 0 A) (F0 m 8 ls []) := by
  intro n
  induction n with
  | zero =>
    intro x3 σ H locs ls hl hP hS hD
    rw [L_X4_find_8] at hD
    cases hD
  | succ n ih =>
    intro x3 σ H locs ls hl hP hS hD
    rw [L_X4_find_8] at hD
    refine lv_iload_n C.1 C.2.1 dX4_find_8 rfl (lv_at hl 3 rfl) ?_
    refine lv_aload_n C.1 C.2.1 dX4_find_9 rfl (lv_at hl 0 rfl) ?_
    refine gf_X4_15_28 C hP dX4_find_10 ?_
    refine gf_X4_23_20 C hP dX4_find_13 ?_
    refine lv_icmp_ge (tgt := 44) C.1 C.2.1 dX4_find_16 (by decide) (fun c2 => ?_) (fun c2 => ?_)
    · have hD := b_t c2 hD
      refine lv_iconst (v := (0 : Int32)) C.1 C.2.1 dX4_find_44 (by decide) ?_
      refine lv_istore_n (lv' := [(3, .int (0 : Int32)), (0, .ref (g.2.2 28)), (1, .ref (g.2.2 (4 + k1))), (2, .int x2)]) C.1 C.2.1 dX4_find_45 rfl hl (by decide) rfl (fun ls hl => ?_)
      exact w_L_X4_find_46 C hr N k1 x2 N (0 : Int32) σ H locs ls (lv_sub hl [1, 2, 3, 0] rfl) hP hS hD
    · have hD := b_f c2 hD
      refine lv_aload_n C.1 C.2.1 dX4_find_19 rfl (lv_at hl 0 rfl) ?_
      refine lv_aload_n C.1 C.2.1 dX4_find_20 rfl (lv_at hl 1 rfl) ?_
      refine lv_iload_n C.1 C.2.1 dX4_find_21 rfl (lv_at hl 3 rfl) ?_
      refine lv_iload_n C.1 C.2.1 dX4_find_22 rfl (lv_at hl 3 rfl) ?_
      obtain ⟨r9, s9, hd9, hD⟩ := bs_some hD
      refine kVi_X (As := [.ref (g.2.2 (4 + k1)), .int x3, .int x3]) (rest := []) (ci := 4) (q0 := 28) C (c_X4_partsBy l g H.size N σ k1 x3 x3 hd9) kw_X4_29 ⟨rfl, rfl⟩ ⟨Nat.le_of_ble_eq_true rfl, Nat.le_of_ble_eq_true rfl⟩ kv_X4_partsBy rfl rfl rfl hl.1 (Nat.le_of_ble_eq_true rfl) ⟨Nat.zero_le _, Nat.zero_le _⟩ dX4_find_23 hP hS rfl (fun H locs hP hS => ?_)
      refine lv_iload_n C.1 C.2.1 dX4_find_26 rfl (lv_at hl 2 rfl) ?_
      refine lv_icmp_ne (tgt := 38) C.1 C.2.1 dX4_find_27 (by decide) (fun c10 => ?_) (fun c10 => ?_)
      · have hD := b_f c10 hD
        refine lv_iinc (v := x3 + (1 : Int32)) (lv' := [(3, .int (x3 + (1 : Int32))), (0, .ref (g.2.2 28)), (1, .ref (g.2.2 (4 + k1))), (2, .int x2)]) C.1 C.2.1 dX4_find_38 hl (k := 3) rfl rfl (by decide) rfl (fun ls hl => ?_)
        refine lv_goto (tgt := 8) C.1 C.2.1 dX4_find_41 (by decide) ?_
        exact ih (x3 + (1 : Int32)) s9 H locs ls (lv_sub hl [1, 2, 3, 0] rfl) hP hS hD
      · have hD := b_t c10 hD
        refine lv_aload_n C.1 C.2.1 dX4_find_30 rfl (lv_at hl 0 rfl) ?_
        refine lv_iconst (v := (1 : Int32)) C.1 C.2.1 dX4_find_31 (by decide) ?_
        refine lv_iload_n C.1 C.2.1 dX4_find_32 rfl (lv_at hl 3 rfl) ?_
        refine lv_iconst (v := (-1 : Int32)) C.1 C.2.1 dX4_find_33 (by decide) ?_
        obtain ⟨s11, hd11, hD⟩ := bp_some hD
        refine kVv_X (As := [.int (1 : Int32), .int x3, .int (-1 : Int32)]) (rest := []) (ci := 4) (q0 := 28) C (c_X4_answer l g H.size s9 (1 : Int32) x3 (-1 : Int32) hd11) kw_X4_33 ⟨rfl, rfl⟩ ⟨Nat.le_of_ble_eq_true rfl, Nat.le_of_ble_eq_true rfl⟩ kv_X4_answer rfl rfl rfl hl.1 (Nat.le_of_ble_eq_true rfl) ⟨Nat.zero_le _, Nat.zero_le _⟩ dX4_find_34 hP hS rfl (fun H locs hP hS => ?_)
        cases hD
        exact rv_X C hr hP hS dX4_find_37
set_option maxHeartbeats 4000000 in
set_option maxRecDepth 100000 in
theorem c_X4_find (l : Launch) (g : Gx) (sz : Nat) (N : Nat) (σ : St) (k1 : Nat) {u : St} (hD : D_X4_find N σ k1 = some u) : Met l yX4_find (Cond.code yX4_find cX4_find 5 (none) :: tb) rm_X4_find (PcX g [.ref (g.2.2 28), .ref (g.2.2 (4 + k1))] σ sz) (QvX g (AX g sz) u) 0 0 (AX g sz) := by
  refine Met.ofW (cc := cX4_find) (maxL := 5) (ret := none) (by decide) rfl ?_
  intro p e s m args below meth c s₁ B hml hv
  have hv0 := hv
  obtain ⟨rfl, hsz, hP, -⟩ := hv
  subst hsz
  have C : CX g (AX g s.heap.size) p s m _ meth c cX4_find 5 RX4 := CX.of B hml (fun w h => List.mem_cons_of_mem _ h) rfl hv0
  have hr := B.returns
  have hS : va_S (AX g s.heap.size) s.heap s.heap [] := va_S.rf
  have hl := lv_entry ([.ref (g.2.2 28), .ref (g.2.2 (4 + k1))]) (n := 5) (Nat.le_of_ble_eq_true rfl)
  rw [lg_entry_eq]
  generalize (lg_sl ([.ref (g.2.2 28), .ref (g.2.2 (4 + k1))]) ++ List.replicate (5 - (lg_sl ([.ref (g.2.2 28), .ref (g.2.2 (4 + k1))])).length) Slot.unset).toArray = ls at hl ⊢
  have hl : lv_has ls 5 [(0, .ref (g.2.2 28)), (1, .ref (g.2.2 (4 + k1)))] := hl
  obtain ⟨H, hH⟩ : ∃ H, H = s.heap := ⟨_, rfl⟩
  have hP : va_P g.1 vwCl (wX g σ) H := by rw [hH]; exact hP
  have hS : va_S (AX g s.heap.size) s.heap H [] := by rw [hH]; exact hS
  refine wH hH ?_
  obtain ⟨locs, hlo⟩ : ∃ locs : List Loc, locs = [] := ⟨_, rfl⟩
  rw [← hlo] at hS
  refine wL hlo ?_
  unfold D_X4_find at hD
  refine lv_aload_n C.1 C.2.1 dX4_find_0 rfl (lv_at hl 0 rfl) ?_
  refine lv_aload_n C.1 C.2.1 dX4_find_1 rfl (lv_at hl 1 rfl) ?_
  obtain ⟨r1, hd1, hD⟩ := bp_some hD
  refine kVi_X (As := [.ref (g.2.2 (4 + k1))]) (rest := []) (ci := 4) (q0 := 28) C (c_X4_sortsOfRows l g H.size N σ k1 hd1) kw_X4_19 ⟨rfl, rfl⟩ ⟨Nat.le_of_ble_eq_true rfl, Nat.le_of_ble_eq_true rfl⟩ kv_X4_sortsOfRows rfl rfl rfl hl.1 (Nat.le_of_ble_eq_true rfl) ⟨Nat.zero_le _, Nat.zero_le _⟩ dX4_find_2 hP hS rfl (fun H locs hP hS => ?_)
  refine lv_istore_n (lv' := [(2, .int r1), (0, .ref (g.2.2 28)), (1, .ref (g.2.2 (4 + k1)))]) C.1 C.2.1 dX4_find_5 rfl hl (by decide) rfl (fun ls hl => ?_)
  refine lv_iconst (v := (0 : Int32)) C.1 C.2.1 dX4_find_6 (by decide) ?_
  refine lv_istore_n (lv' := [(3, .int (0 : Int32)), (2, .int r1), (0, .ref (g.2.2 28)), (1, .ref (g.2.2 (4 + k1)))]) C.1 C.2.1 dX4_find_7 rfl hl (by decide) rfl (fun ls hl => ?_)
  exact w_L_X4_find_8 C hr N k1 r1 N (0 : Int32) σ H locs ls (lv_sub hl [2, 3, 1, 0] rfl) hP hS hD
abbrev rm_X11_parts : Room := { frames := 6, cells := 0, slots := 0, locals := 139 }
set_option maxHeartbeats 4000000 in
set_option maxRecDepth 100000 in
theorem c_X11_parts (l : Launch) (g : Gx) (sz : Nat) (N : Nat) (σ : St) (x1 : Int32) (x2 : Int32) {r : Int32} {u : St} (hD : D_X11_parts N σ x1 x2 = some (r, u)) : Met l yX11_parts (Cond.code yX11_parts cX11_parts 3 (some .int) :: tb) rm_X11_parts (PcX g [.ref (g.2.2 0), .int x1, .int x2] σ sz) (QiX g (AX g sz) r u) 0 0 (AX g sz) := by
  refine Met.ofW (cc := cX11_parts) (maxL := 3) (ret := some .int) (by decide) rfl ?_
  intro p e s m args below meth c s₁ B hml hv
  have hv0 := hv
  obtain ⟨rfl, hsz, hP, -⟩ := hv
  subst hsz
  have C : CX g (AX g s.heap.size) p s m _ meth c cX11_parts 3 RX11 := CX.of B hml (fun w h => List.mem_cons_of_mem _ h) rfl hv0
  have hr := B.returns
  have hS : va_S (AX g s.heap.size) s.heap s.heap [] := va_S.rf
  have hl := lv_entry ([.ref (g.2.2 0), .int x1, .int x2]) (n := 3) (Nat.le_of_ble_eq_true rfl)
  rw [lg_entry_eq]
  generalize (lg_sl ([.ref (g.2.2 0), .int x1, .int x2]) ++ List.replicate (3 - (lg_sl ([.ref (g.2.2 0), .int x1, .int x2])).length) Slot.unset).toArray = ls at hl ⊢
  have hl : lv_has ls 3 [(0, .ref (g.2.2 0)), (1, .int x1), (2, .int x2)] := hl
  obtain ⟨H, hH⟩ : ∃ H, H = s.heap := ⟨_, rfl⟩
  have hP : va_P g.1 vwCl (wX g σ) H := by rw [hH]; exact hP
  have hS : va_S (AX g s.heap.size) s.heap H [] := by rw [hH]; exact hS
  refine wH hH ?_
  obtain ⟨locs, hlo⟩ : ∃ locs : List Loc, locs = [] := ⟨_, rfl⟩
  rw [← hlo] at hS
  refine wL hlo ?_
  unfold D_X11_parts at hD
  refine lv_aload_n C.1 C.2.1 dX11_parts_0 rfl (lv_at hl 0 rfl) ?_
  refine lv_iload_n C.1 C.2.1 dX11_parts_1 rfl (lv_at hl 1 rfl) ?_
  obtain ⟨r1, hd1, hD⟩ := bp_some hD
  refine kVi_X (As := [.int x1]) (rest := []) (ci := 11) (q0 := 0) C (c_X11_isJudge l g H.size σ x1 hd1) kw_X11_134 ⟨rfl, rfl⟩ ⟨Nat.le_of_ble_eq_true rfl, Nat.le_of_ble_eq_true rfl⟩ kv_X11_isJudge rfl rfl rfl hl.1 (Nat.le_of_ble_eq_true rfl) ⟨Nat.zero_le _, Nat.zero_le _⟩ dX11_parts_2 hP hS rfl (fun H locs hP hS => ?_)
  refine lv_if_ne (tgt := 11) C.1 C.2.1 dX11_parts_5 (by decide) (fun c2 => ?_) (fun c2 => ?_)
  · have hD := b_f c2 hD
    refine lv_iload_n C.1 C.2.1 dX11_parts_11 rfl (lv_at hl 2 rfl) ?_
    refine lv_if_lt (tgt := 20) C.1 C.2.1 dX11_parts_12 (by decide) (fun c3 => ?_) (fun c3 => ?_)
    · have hD := b_t c3 hD
      refine lv_bipush (v := (-102 : Int32)) C.1 C.2.1 dX11_parts_20 (by decide) ?_
      cases hD
      exact ri_X C hr hP hS dX11_parts_22
    · have hD := b_f c3 hD
      refine lv_iload_n C.1 C.2.1 dX11_parts_15 rfl (lv_at hl 2 rfl) ?_
      refine lv_iconst (v := (2 : Int32)) C.1 C.2.1 dX11_parts_16 (by decide) ?_
      refine lv_icmp_le (tgt := 23) C.1 C.2.1 dX11_parts_17 (by decide) (fun c4 => ?_) (fun c4 => ?_)
      · have hD := b_t c4 hD
        refine lv_aload_n C.1 C.2.1 dX11_parts_23 rfl (lv_at hl 0 rfl) ?_
        refine gf_X11_57_0 C hP dX11_parts_24 ?_
        refine gf_X11_133_20 C hP dX11_parts_27 ?_
        refine lv_bipush (v := (64 : Int32)) C.1 C.2.1 dX11_parts_30 (by decide) ?_
        refine lv_icmp_gt (tgt := 44) C.1 C.2.1 dX11_parts_32 (by decide) (fun c5 => ?_) (fun c5 => ?_)
        · have hD := b_t c5 hD
          refine lv_bipush (v := (-103 : Int32)) C.1 C.2.1 dX11_parts_44 (by decide) ?_
          cases hD
          exact ri_X C hr hP hS dX11_parts_46
        · have hD := b_f c5 hD
          refine lv_aload_n C.1 C.2.1 dX11_parts_35 rfl (lv_at hl 0 rfl) ?_
          refine gf_X11_231_0 C hP dX11_parts_36 ?_
          refine lv_bipush (v := (9 : Int32)) C.1 C.2.1 dX11_parts_39 (by decide) ?_
          refine lv_icmp_lt (tgt := 47) C.1 C.2.1 dX11_parts_41 (by decide) (fun c6 => ?_) (fun c6 => ?_)
          · have hD := b_t c6 hD
            refine lv_aload_n C.1 C.2.1 dX11_parts_47 rfl (lv_at hl 0 rfl) ?_
            refine lv_dup C.1 C.2.1 dX11_parts_48 rfl ?_
            refine gf_X11_231_0 C hP dX11_parts_49 ?_
            refine lv_iconst (v := (1 : Int32)) C.1 C.2.1 dX11_parts_52 (by decide) ?_
            refine lv_iadd C.1 C.2.1 dX11_parts_53 ?_
            refine pf_X11_231_0 C hP hS dX11_parts_54 (fun H locs hP hS => ?_)
            refine lv_aload_n C.1 C.2.1 dX11_parts_57 rfl (lv_at hl 0 rfl) ?_
            refine gf_X11_68_0 C hP dX11_parts_58 ?_
            refine lv_aload_n C.1 C.2.1 dX11_parts_61 rfl (lv_at hl 0 rfl) ?_
            refine lv_iload_n C.1 C.2.1 dX11_parts_62 rfl (lv_at hl 1 rfl) ?_
            obtain ⟨r7, hd7, hD⟩ := bp_some hD
            refine kVr_X (As := [.int x1]) (rest := [.ref (g.2.2 28)]) (ci := 11) (q0 := 0) C (c_X11_judgeAt l g H.size (pt σ 0 14 ((σ 0 14) + (1 : Int32))) x1 hd7) kw_X11_147 ⟨rfl, rfl⟩ ⟨Nat.le_of_ble_eq_true rfl, Nat.le_of_ble_eq_true rfl⟩ kv_X11_judgeAt rfl rfl rfl hl.1 (Nat.le_of_ble_eq_true rfl) ⟨Nat.zero_le _, Nat.zero_le _⟩ dX11_parts_63 hP hS rfl (fun H locs hP hS => ?_)
            obtain ⟨s8, hd8, hD⟩ := bp_some hD
            refine kVv_X (As := [.ref (g.2.2 (4 + r7))]) (rest := []) (ci := 4) (q0 := 28) C (c_X4_find l g H.size N (pt σ 0 14 ((σ 0 14) + (1 : Int32))) r7 hd8) kw_X11_234 ⟨rfl, rfl⟩ ⟨Nat.le_of_ble_eq_true rfl, Nat.le_of_ble_eq_true rfl⟩ kv_X4_find rfl rfl rfl hl.1 (Nat.le_of_ble_eq_true rfl) ⟨Nat.zero_le _, Nat.zero_le _⟩ dX11_parts_66 hP hS rfl (fun H locs hP hS => ?_)
            refine lv_iload_n C.1 C.2.1 dX11_parts_69 rfl (lv_at hl 2 rfl) ?_
            refine lv_if_ne (tgt := 81) C.1 C.2.1 dX11_parts_70 (by decide) (fun c9 => ?_) (fun c9 => ?_)
            · have hD := b_f c9 hD
              refine lv_iload_n C.1 C.2.1 dX11_parts_81 rfl (lv_at hl 2 rfl) ?_
              refine lv_iconst (v := (1 : Int32)) C.1 C.2.1 dX11_parts_82 (by decide) ?_
              refine lv_icmp_ne (tgt := 96) C.1 C.2.1 dX11_parts_83 (by decide) (fun c10 => ?_) (fun c10 => ?_)
              · have hD := b_f c10 hD
                refine lv_aload_n C.1 C.2.1 dX11_parts_96 rfl (lv_at hl 0 rfl) ?_
                refine gf_X11_68_0 C hP dX11_parts_97 ?_
                refine gf_X11_244_28 C hP dX11_parts_100 ?_
                cases hD
                exact ri_X C hr hP hS dX11_parts_103
              · have hD := b_t c10 hD
                refine lv_aload_n C.1 C.2.1 dX11_parts_86 rfl (lv_at hl 0 rfl) ?_
                refine gf_X11_68_0 C hP dX11_parts_87 ?_
                refine gf_X11_241_28 C hP dX11_parts_90 ?_
                refine lv_goto (tgt := 103) C.1 C.2.1 dX11_parts_93 (by decide) ?_
                cases hD
                exact ri_X C hr hP hS dX11_parts_103
            · have hD := b_t c9 hD
              refine lv_aload_n C.1 C.2.1 dX11_parts_73 rfl (lv_at hl 0 rfl) ?_
              refine gf_X11_68_0 C hP dX11_parts_74 ?_
              refine gf_X11_238_28 C hP dX11_parts_77 ?_
              cases hD
              exact ri_X C hr hP hS dX11_parts_80
          · have hD := b_f c6 hD
            refine lv_bipush (v := (-103 : Int32)) C.1 C.2.1 dX11_parts_44 (by decide) ?_
            cases hD
            exact ri_X C hr hP hS dX11_parts_46
      · have hD := b_f c4 hD
        refine lv_bipush (v := (-102 : Int32)) C.1 C.2.1 dX11_parts_20 (by decide) ?_
        cases hD
        exact ri_X C hr hP hS dX11_parts_22
  · have hD := b_t c2 hD
    refine lv_bipush (v := (-101 : Int32)) C.1 C.2.1 dX11_parts_8 (by decide) ?_
    cases hD
    exact ri_X C hr hP hS dX11_parts_10
end WLK
