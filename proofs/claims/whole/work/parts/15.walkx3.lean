section WLK
variable {p : Program} {l : Launch} {e : Env} {s : State} {m : MethodId} {args : Array Value} {below : List Frame} {meth : Method} {c : Code} {g : Gx} {A : Nat → Prop}
abbrev rm_X11_restore : Room := { frames := 2, cells := 0, slots := 0, locals := 61 }
set_option maxHeartbeats 4000000 in
set_option maxRecDepth 100000 in
theorem c_X11_restore (l : Launch) (g : Gx) (sz : Nat) (σ : St) {r : Int32} {u : St} (hD : D_X11_restore σ = some (r, u)) : Met l yX11_restore (Cond.code yX11_restore cX11_restore 1 (some .int) :: tb) rm_X11_restore (PcX g [.ref (g.2.2 0)] σ sz) (QiX g (AX g sz) r u) 0 0 (AX g sz) := by
  refine Met.ofW (cc := cX11_restore) (maxL := 1) (ret := some .int) (by decide) rfl ?_
  intro p e s m args below meth c s₁ B hml hv
  have hv0 := hv
  obtain ⟨rfl, hsz, hP, -⟩ := hv
  subst hsz
  have C : CX g (AX g s.heap.size) p s m _ meth c cX11_restore 1 RX11 := CX.of B hml (fun w h => List.mem_cons_of_mem _ h) rfl hv0
  have hr := B.returns
  have hS : va_S (AX g s.heap.size) s.heap s.heap [] := va_S.rf
  have hl := lv_entry ([.ref (g.2.2 0)]) (n := 1) (Nat.le_of_ble_eq_true rfl)
  rw [lg_entry_eq]
  generalize (lg_sl ([.ref (g.2.2 0)]) ++ List.replicate (1 - (lg_sl ([.ref (g.2.2 0)])).length) Slot.unset).toArray = ls at hl ⊢
  have hl : lv_has ls 1 [(0, .ref (g.2.2 0))] := hl
  obtain ⟨H, hH⟩ : ∃ H, H = s.heap := ⟨_, rfl⟩
  have hP : va_P g.1 vwCl (wX g σ) H := by rw [hH]; exact hP
  have hS : va_S (AX g s.heap.size) s.heap H [] := by rw [hH]; exact hS
  refine wH hH ?_
  obtain ⟨locs, hlo⟩ : ∃ locs : List Loc, locs = [] := ⟨_, rfl⟩
  rw [← hlo] at hS
  refine wL hlo ?_
  unfold D_X11_restore at hD
  refine lv_aload_n C.1 C.2.1 dX11_restore_0 rfl (lv_at hl 0 rfl) ?_
  refine gf_X11_126_0 C hP dX11_restore_1 ?_
  refine lv_if_ne (tgt := 10) C.1 C.2.1 dX11_restore_4 (by decide) (fun c1 => ?_) (fun c1 => ?_)
  · have hD := b_f c1 hD
    refine lv_aload_n C.1 C.2.1 dX11_restore_10 rfl (lv_at hl 0 rfl) ?_
    refine gf_X11_42_0 C hP dX11_restore_11 ?_
    refine lv_aload_n C.1 C.2.1 dX11_restore_14 rfl (lv_at hl 0 rfl) ?_
    refine gf_X11_46_0 C hP dX11_restore_15 ?_
    obtain ⟨s2, hd2, hD⟩ := bp_some hD
    refine kVv_X (As := [.ref (g.2.2 15)]) (rest := []) (ci := 0) (q0 := 10) C (c_X0_take_n l g H.size σ hd2) kw_X11_259 ⟨rfl, rfl⟩ ⟨Nat.le_of_ble_eq_true rfl, Nat.le_of_ble_eq_true rfl⟩ kv_X0_take rfl rfl rfl hl.1 (Nat.le_of_ble_eq_true rfl) ⟨Nat.zero_le _, Nat.zero_le _⟩ dX11_restore_18 hP hS rfl (fun H locs hP hS => ?_)
    refine lv_aload_n C.1 C.2.1 dX11_restore_21 rfl (lv_at hl 0 rfl) ?_
    refine gf_X11_42_0 C hP dX11_restore_22 ?_
    refine gf_X11_125_10 C hP dX11_restore_25 ?_
    cases hD
    exact ri_X C hr hP hS dX11_restore_28
  · have hD := b_t c1 hD
    refine lv_bipush (v := (-103 : Int32)) C.1 C.2.1 dX11_restore_7 (by decide) ?_
    cases hD
    exact ri_X C hr hP hS dX11_restore_9
abbrev rm_X11_row : Room := { frames := 4, cells := 0, slots := 0, locals := 88 }
set_option maxHeartbeats 4000000 in
set_option maxRecDepth 100000 in
theorem c_X11_row (l : Launch) (g : Gx) (sz : Nat) (N : Nat) (σ : St) (x1 : Int32) (x2 : Int32) {r : Int32} (hD : D_X11_row N σ x1 x2 = some r) : Met l yX11_row (Cond.code yX11_row cX11_row 3 (some .int) :: tb) rm_X11_row (PcX g [.ref (g.2.2 0), .int x1, .int x2] σ sz) (QiX g (AX g sz) r σ) 0 0 (AX g sz) := by
  refine Met.ofW (cc := cX11_row) (maxL := 3) (ret := some .int) (by decide) rfl ?_
  intro p e s m args below meth c s₁ B hml hv
  have hv0 := hv
  obtain ⟨rfl, hsz, hP, -⟩ := hv
  subst hsz
  have C : CX g (AX g s.heap.size) p s m _ meth c cX11_row 3 RX11 := CX.of B hml (fun w h => List.mem_cons_of_mem _ h) rfl hv0
  have hr := B.returns
  have hS : va_S (AX g s.heap.size) s.heap s.heap [] := va_S.rf
  have hl := lv_entry ([.ref (g.2.2 0), .int x1, .int x2]) (n := 3) (Nat.le_of_ble_eq_true rfl)
  rw [lg_entry_eq]
  generalize (lg_sl ([.ref (g.2.2 0), .int x1, .int x2]) ++ List.replicate (3 - (lg_sl ([.ref (g.2.2 0), .int x1, .int x2])).length) Slot.unset).toArray = ls at hl ⊢
  have hl : lv_has ls 3 [(0, .ref (g.2.2 0)), (1, .int x1), (2, .int x2)] := hl
  obtain ⟨H, hH⟩ : ∃ H, H = s.heap := ⟨_, rfl⟩
  have hP : va_P g.1 vwCl (wX g σ) H := by rw [hH]; exact hP
  have hS : va_S (AX g s.heap.size) s.heap H [] := by rw [hH]; exact hS
  refine wH hH ?_
  obtain ⟨locs, hlo⟩ : ∃ locs : List Loc, locs = [] := ⟨_, rfl⟩
  rw [← hlo] at hS
  refine wL hlo ?_
  unfold D_X11_row at hD
  refine lv_aload_n C.1 C.2.1 dX11_row_0 rfl (lv_at hl 0 rfl) ?_
  refine lv_iload_n C.1 C.2.1 dX11_row_1 rfl (lv_at hl 1 rfl) ?_
  obtain ⟨r1, hd1, hD⟩ := bp_some hD
  refine kVi_X (As := [.int x1]) (rest := []) (ci := 11) (q0 := 0) C (c_X11_isRow l g H.size σ x1 hd1) kw_X11_162 ⟨rfl, rfl⟩ ⟨Nat.le_of_ble_eq_true rfl, Nat.le_of_ble_eq_true rfl⟩ kv_X11_isRow rfl rfl rfl hl.1 (Nat.le_of_ble_eq_true rfl) ⟨Nat.zero_le _, Nat.zero_le _⟩ dX11_row_2 hP hS rfl (fun H locs hP hS => ?_)
  refine lv_if_ne (tgt := 11) C.1 C.2.1 dX11_row_5 (by decide) (fun c2 => ?_) (fun c2 => ?_)
  · have hD := b_f c2 hD
    refine lv_iload_n C.1 C.2.1 dX11_row_11 rfl (lv_at hl 2 rfl) ?_
    refine lv_if_lt (tgt := 20) C.1 C.2.1 dX11_row_12 (by decide) (fun c3 => ?_) (fun c3 => ?_)
    · have hD := b_t c3 hD
      refine lv_bipush (v := (-102 : Int32)) C.1 C.2.1 dX11_row_20 (by decide) ?_
      cases hD
      exact ri_X C hr hP hS dX11_row_22
    · have hD := b_f c3 hD
      refine lv_iload_n C.1 C.2.1 dX11_row_15 rfl (lv_at hl 2 rfl) ?_
      refine lv_iconst (v := (4 : Int32)) C.1 C.2.1 dX11_row_16 (by decide) ?_
      refine lv_icmp_le (tgt := 23) C.1 C.2.1 dX11_row_17 (by decide) (fun c4 => ?_) (fun c4 => ?_)
      · have hD := b_t c4 hD
        refine lv_iload_n C.1 C.2.1 dX11_row_23 rfl (lv_at hl 2 rfl) ?_
        refine lv_if_ne (tgt := 41) C.1 C.2.1 dX11_row_24 (by decide) (fun c5 => ?_) (fun c5 => ?_)
        · have hD := b_f c5 hD
          refine lv_iload_n C.1 C.2.1 dX11_row_41 rfl (lv_at hl 2 rfl) ?_
          refine lv_iconst (v := (3 : Int32)) C.1 C.2.1 dX11_row_42 (by decide) ?_
          refine lv_icmp_le (tgt := 63) C.1 C.2.1 dX11_row_43 (by decide) (fun c6 => ?_) (fun c6 => ?_)
          · have hD := b_t c6 hD
            refine lv_iload_n C.1 C.2.1 dX11_row_63 rfl (lv_at hl 2 rfl) ?_
            refine lv_aload_n C.1 C.2.1 dX11_row_64 rfl (lv_at hl 0 rfl) ?_
            refine gf_X11_57_0 C hP dX11_row_65 ?_
            refine gf_X11_168_20 C hP dX11_row_68 ?_
            refine lv_icmp_gt (tgt := 88) C.1 C.2.1 dX11_row_71 (by decide) (fun c7 => ?_) (fun c7 => ?_)
            · have hD := b_t c7 hD
              refine lv_iconst (v := (-1 : Int32)) C.1 C.2.1 dX11_row_88 (by decide) ?_
              cases hD
              exact ri_X C hr hP hS dX11_row_89
            · have hD := b_f c7 hD
              refine lv_aload_n C.1 C.2.1 dX11_row_74 rfl (lv_at hl 0 rfl) ?_
              refine gf_X11_57_0 C hP dX11_row_75 ?_
              refine lv_iload_n C.1 C.2.1 dX11_row_78 rfl (lv_at hl 1 rfl) ?_
              refine lv_iload_n C.1 C.2.1 dX11_row_79 rfl (lv_at hl 2 rfl) ?_
              refine lv_iconst (v := (1 : Int32)) C.1 C.2.1 dX11_row_80 (by decide) ?_
              refine lv_isub C.1 C.2.1 dX11_row_81 ?_
              obtain ⟨r8, hd8, hD⟩ := bp_some hD
              refine kVi_X (As := [.int x1, .int (x2 - (1 : Int32))]) (rest := []) (ci := 6) (q0 := 20) C (c_X6_colour l g H.size N σ x1 (x2 - (1 : Int32)) hd8) kw_X11_170 ⟨rfl, rfl⟩ ⟨Nat.le_of_ble_eq_true rfl, Nat.le_of_ble_eq_true rfl⟩ kv_X6_colour rfl rfl rfl hl.1 (Nat.le_of_ble_eq_true rfl) ⟨Nat.zero_le _, Nat.zero_le _⟩ dX11_row_82 hP hS rfl (fun H locs hP hS => ?_)
              refine lv_goto (tgt := 89) C.1 C.2.1 dX11_row_85 (by decide) ?_
              cases hD
              exact ri_X C hr hP hS dX11_row_89
          · have hD := b_f c6 hD
            refine lv_iload_n C.1 C.2.1 dX11_row_46 rfl (lv_at hl 1 rfl) ?_
            refine lv_aload_n C.1 C.2.1 dX11_row_47 rfl (lv_at hl 0 rfl) ?_
            refine gf_X11_42_0 C hP dX11_row_48 ?_
            refine gf_X11_122_10 C hP dX11_row_51 ?_
            refine lv_icmp_ne (tgt := 61) C.1 C.2.1 dX11_row_54 (by decide) (fun c9 => ?_) (fun c9 => ?_)
            · have hD := b_f c9 hD
              refine lv_iconst (v := (0 : Int32)) C.1 C.2.1 dX11_row_61 (by decide) ?_
              cases hD
              exact ri_X C hr hP hS dX11_row_62
            · have hD := b_t c9 hD
              refine lv_iconst (v := (1 : Int32)) C.1 C.2.1 dX11_row_57 (by decide) ?_
              refine lv_goto (tgt := 62) C.1 C.2.1 dX11_row_58 (by decide) ?_
              cases hD
              exact ri_X C hr hP hS dX11_row_62
        · have hD := b_t c5 hD
          refine lv_aload_n C.1 C.2.1 dX11_row_27 rfl (lv_at hl 0 rfl) ?_
          refine lv_iload_n C.1 C.2.1 dX11_row_28 rfl (lv_at hl 1 rfl) ?_
          obtain ⟨r10, hd10, hD⟩ := bp_some hD
          refine kVi_X (As := [.int x1]) (rest := []) (ci := 11) (q0 := 0) C (c_X11_fitting l g H.size N σ x1 hd10) kw_X11_165 ⟨rfl, rfl⟩ ⟨Nat.le_of_ble_eq_true rfl, Nat.le_of_ble_eq_true rfl⟩ kv_X11_fitting rfl rfl rfl hl.1 (Nat.le_of_ble_eq_true rfl) ⟨Nat.zero_le _, Nat.zero_le _⟩ dX11_row_29 hP hS rfl (fun H locs hP hS => ?_)
          refine lv_if_eq (tgt := 39) C.1 C.2.1 dX11_row_32 (by decide) (fun c11 => ?_) (fun c11 => ?_)
          · have hD := b_t c11 hD
            refine lv_iconst (v := (0 : Int32)) C.1 C.2.1 dX11_row_39 (by decide) ?_
            cases hD
            exact ri_X C hr hP hS dX11_row_40
          · have hD := b_f c11 hD
            refine lv_iconst (v := (1 : Int32)) C.1 C.2.1 dX11_row_35 (by decide) ?_
            refine lv_goto (tgt := 40) C.1 C.2.1 dX11_row_36 (by decide) ?_
            cases hD
            exact ri_X C hr hP hS dX11_row_40
      · have hD := b_f c4 hD
        refine lv_bipush (v := (-102 : Int32)) C.1 C.2.1 dX11_row_20 (by decide) ?_
        cases hD
        exact ri_X C hr hP hS dX11_row_22
  · have hD := b_t c2 hD
    refine lv_bipush (v := (-101 : Int32)) C.1 C.2.1 dX11_row_8 (by decide) ?_
    cases hD
    exact ri_X C hr hP hS dX11_row_10
abbrev rm_X11_show : Room := { frames := 3, cells := 0, slots := 0, locals := 65 }
set_option maxHeartbeats 4000000 in
set_option maxRecDepth 100000 in
theorem c_X11_show (l : Launch) (g : Gx) (sz : Nat) (σ : St) (x1 : Int32) (x2 : Int32) {r : Int32} {u : St} (hD : D_X11_show σ x1 x2 = some (r, u)) : Met l yX11_show (Cond.code yX11_show cX11_show 4 (some .int) :: tb) rm_X11_show (PcX g [.ref (g.2.2 0), .int x1, .int x2] σ sz) (QiX g (AX g sz) r u) 0 0 (AX g sz) := by
  refine Met.ofW (cc := cX11_show) (maxL := 4) (ret := some .int) (by decide) rfl ?_
  intro p e s m args below meth c s₁ B hml hv
  have hv0 := hv
  obtain ⟨rfl, hsz, hP, -⟩ := hv
  subst hsz
  have C : CX g (AX g s.heap.size) p s m _ meth c cX11_show 4 RX11 := CX.of B hml (fun w h => List.mem_cons_of_mem _ h) rfl hv0
  have hr := B.returns
  have hS : va_S (AX g s.heap.size) s.heap s.heap [] := va_S.rf
  have hl := lv_entry ([.ref (g.2.2 0), .int x1, .int x2]) (n := 4) (Nat.le_of_ble_eq_true rfl)
  rw [lg_entry_eq]
  generalize (lg_sl ([.ref (g.2.2 0), .int x1, .int x2]) ++ List.replicate (4 - (lg_sl ([.ref (g.2.2 0), .int x1, .int x2])).length) Slot.unset).toArray = ls at hl ⊢
  have hl : lv_has ls 4 [(0, .ref (g.2.2 0)), (1, .int x1), (2, .int x2)] := hl
  obtain ⟨H, hH⟩ : ∃ H, H = s.heap := ⟨_, rfl⟩
  have hP : va_P g.1 vwCl (wX g σ) H := by rw [hH]; exact hP
  have hS : va_S (AX g s.heap.size) s.heap H [] := by rw [hH]; exact hS
  refine wH hH ?_
  obtain ⟨locs, hlo⟩ : ∃ locs : List Loc, locs = [] := ⟨_, rfl⟩
  rw [← hlo] at hS
  refine wL hlo ?_
  unfold D_X11_show at hD
  refine lv_aload_n C.1 C.2.1 dX11_show_0 rfl (lv_at hl 0 rfl) ?_
  refine lv_iload_n C.1 C.2.1 dX11_show_1 rfl (lv_at hl 1 rfl) ?_
  obtain ⟨r1, hd1, hD⟩ := bp_some hD
  refine kVi_X (As := [.int x1]) (rest := []) (ci := 11) (q0 := 0) C (c_X11_isRow l g H.size σ x1 hd1) kw_X11_162 ⟨rfl, rfl⟩ ⟨Nat.le_of_ble_eq_true rfl, Nat.le_of_ble_eq_true rfl⟩ kv_X11_isRow rfl rfl rfl hl.1 (Nat.le_of_ble_eq_true rfl) ⟨Nat.zero_le _, Nat.zero_le _⟩ dX11_show_2 hP hS rfl (fun H locs hP hS => ?_)
  refine lv_if_eq (tgt := 16) C.1 C.2.1 dX11_show_5 (by decide) (fun c2 => ?_) (fun c2 => ?_)
  · have hD := b_t c2 hD
    refine lv_bipush (v := (-101 : Int32)) C.1 C.2.1 dX11_show_16 (by decide) ?_
    cases hD
    exact ri_X C hr hP hS dX11_show_18
  · have hD := b_f c2 hD
    refine lv_aload_n C.1 C.2.1 dX11_show_8 rfl (lv_at hl 0 rfl) ?_
    refine lv_iload_n C.1 C.2.1 dX11_show_9 rfl (lv_at hl 2 rfl) ?_
    obtain ⟨r3, hd3, hD⟩ := bp_some hD
    refine kVi_X (As := [.int x2]) (rest := []) (ci := 11) (q0 := 0) C (c_X11_isJudge l g H.size σ x2 hd3) kw_X11_134 ⟨rfl, rfl⟩ ⟨Nat.le_of_ble_eq_true rfl, Nat.le_of_ble_eq_true rfl⟩ kv_X11_isJudge rfl rfl rfl hl.1 (Nat.le_of_ble_eq_true rfl) ⟨Nat.zero_le _, Nat.zero_le _⟩ dX11_show_10 hP hS rfl (fun H locs hP hS => ?_)
    refine lv_if_ne (tgt := 19) C.1 C.2.1 dX11_show_13 (by decide) (fun c4 => ?_) (fun c4 => ?_)
    · have hD := b_f c4 hD
      refine lv_aload_n C.1 C.2.1 dX11_show_19 rfl (lv_at hl 0 rfl) ?_
      refine gf_X11_42_0 C hP dX11_show_20 ?_
      refine gf_X11_125_10 C hP dX11_show_23 ?_
      refine lv_bipush (v := (12 : Int32)) C.1 C.2.1 dX11_show_26 (by decide) ?_
      refine lv_icmp_lt (tgt := 34) C.1 C.2.1 dX11_show_28 (by decide) (fun c5 => ?_) (fun c5 => ?_)
      · have hD := b_t c5 hD
        refine lv_aload_n C.1 C.2.1 dX11_show_34 rfl (lv_at hl 0 rfl) ?_
        refine lv_iload_n C.1 C.2.1 dX11_show_35 rfl (lv_at hl 2 rfl) ?_
        obtain ⟨r6, hd6, hD⟩ := bp_some hD
        refine kVr_X (As := [.int x2]) (rest := []) (ci := 11) (q0 := 0) C (c_X11_judgeAt l g H.size σ x2 hd6) kw_X11_147 ⟨rfl, rfl⟩ ⟨Nat.le_of_ble_eq_true rfl, Nat.le_of_ble_eq_true rfl⟩ kv_X11_judgeAt rfl rfl rfl hl.1 (Nat.le_of_ble_eq_true rfl) ⟨Nat.zero_le _, Nat.zero_le _⟩ dX11_show_36 hP hS rfl (fun H locs hP hS => ?_)
        refine lv_aload_n C.1 C.2.1 dX11_show_39 rfl (lv_at hl 0 rfl) ?_
        refine gf_X11_57_0 C hP dX11_show_40 ?_
        refine lv_iload_n C.1 C.2.1 dX11_show_43 rfl (lv_at hl 1 rfl) ?_
        refine lv_aload_n C.1 C.2.1 dX11_show_44 rfl (lv_at hl 0 rfl) ?_
        refine gf_X11_42_0 C hP dX11_show_45 ?_
        refine gf_X11_122_10 C hP dX11_show_48 ?_
        obtain ⟨r7, hd7, hD⟩ := bp_some hD
        refine kW_X11_174 C hd7 ⟨Nat.le_of_ble_eq_true rfl, Nat.le_of_ble_eq_true rfl⟩ hl.1 (Nat.le_of_ble_eq_true rfl) ⟨Nat.zero_le _, Nat.zero_le _⟩ dX11_show_51 hP hS (fun H locs hP hS => ?_)
        refine lv_istore_n (lv' := [(3, .int r7), (0, .ref (g.2.2 0)), (1, .int x1), (2, .int x2)]) C.1 C.2.1 dX11_show_54 rfl hl (by decide) rfl (fun ls hl => ?_)
        refine lv_aload_n C.1 C.2.1 dX11_show_55 rfl (lv_at hl 1 rfl) ?_
        refine gf_X11_42_0 C hP dX11_show_56 ?_
        refine lv_iload_n C.1 C.2.1 dX11_show_59 rfl (lv_at hl 2 rfl) ?_
        refine lv_iload_n C.1 C.2.1 dX11_show_60 rfl (lv_at hl 3 rfl) ?_
        refine lv_iload_n C.1 C.2.1 dX11_show_61 rfl (lv_at hl 0 rfl) ?_
        obtain ⟨s8, hd8, hD⟩ := bp_some hD
        refine kVv_X (As := [.int x1, .int x2, .int r7]) (rest := []) (ci := 0) (q0 := 10) C (c_X0_append l g H.size σ x1 x2 r7 hd8) kw_X11_187 ⟨rfl, rfl⟩ ⟨Nat.le_of_ble_eq_true rfl, Nat.le_of_ble_eq_true rfl⟩ kv_X0_append rfl rfl rfl hl.1 (Nat.le_of_ble_eq_true rfl) ⟨Nat.zero_le _, Nat.zero_le _⟩ dX11_show_62 hP hS rfl (fun H locs hP hS => ?_)
        refine lv_iload_n C.1 C.2.1 dX11_show_65 rfl (lv_at hl 0 rfl) ?_
        cases hD
        exact ri_X C hr hP hS dX11_show_66
      · have hD := b_f c5 hD
        refine lv_bipush (v := (-104 : Int32)) C.1 C.2.1 dX11_show_31 (by decide) ?_
        cases hD
        exact ri_X C hr hP hS dX11_show_33
    · have hD := b_t c4 hD
      refine lv_bipush (v := (-101 : Int32)) C.1 C.2.1 dX11_show_16 (by decide) ?_
      cases hD
      exact ri_X C hr hP hS dX11_show_18
abbrev rm_X11_strike : Room := { frames := 0, cells := 0, slots := 0, locals := 0 }
set_option maxHeartbeats 4000000 in
set_option maxRecDepth 100000 in
theorem c_X11_strike (l : Launch) (g : Gx) (sz : Nat) (σ : St) {r : Int32} {u : St} (hD : D_X11_strike σ = some (r, u)) : Met l yX11_strike (Cond.code yX11_strike cX11_strike 1 (some .int) :: tb) rm_X11_strike (PcX g [.ref (g.2.2 0)] σ sz) (QiX g (AX g sz) r u) 0 0 (AX g sz) := by
  refine Met.ofW (cc := cX11_strike) (maxL := 1) (ret := some .int) (by decide) rfl ?_
  intro p e s m args below meth c s₁ B hml hv
  have hv0 := hv
  obtain ⟨rfl, hsz, hP, -⟩ := hv
  subst hsz
  have C : CX g (AX g s.heap.size) p s m _ meth c cX11_strike 1 RX11 := CX.of B hml (fun w h => List.mem_cons_of_mem _ h) rfl hv0
  have hr := B.returns
  have hS : va_S (AX g s.heap.size) s.heap s.heap [] := va_S.rf
  have hl := lv_entry ([.ref (g.2.2 0)]) (n := 1) (Nat.le_of_ble_eq_true rfl)
  rw [lg_entry_eq]
  generalize (lg_sl ([.ref (g.2.2 0)]) ++ List.replicate (1 - (lg_sl ([.ref (g.2.2 0)])).length) Slot.unset).toArray = ls at hl ⊢
  have hl : lv_has ls 1 [(0, .ref (g.2.2 0))] := hl
  obtain ⟨H, hH⟩ : ∃ H, H = s.heap := ⟨_, rfl⟩
  have hP : va_P g.1 vwCl (wX g σ) H := by rw [hH]; exact hP
  have hS : va_S (AX g s.heap.size) s.heap H [] := by rw [hH]; exact hS
  refine wH hH ?_
  obtain ⟨locs, hlo⟩ : ∃ locs : List Loc, locs = [] := ⟨_, rfl⟩
  rw [← hlo] at hS
  refine wL hlo ?_
  unfold D_X11_strike at hD
  refine lv_aload_n C.1 C.2.1 dX11_strike_0 rfl (lv_at hl 0 rfl) ?_
  refine gf_X11_42_0 C hP dX11_strike_1 ?_
  refine gf_X11_125_10 C hP dX11_strike_4 ?_
  refine lv_if_ne (tgt := 13) C.1 C.2.1 dX11_strike_7 (by decide) (fun c1 => ?_) (fun c1 => ?_)
  · have hD := b_f c1 hD
    refine lv_aload_n C.1 C.2.1 dX11_strike_13 rfl (lv_at hl 0 rfl) ?_
    refine gf_X11_42_0 C hP dX11_strike_14 ?_
    refine lv_dup C.1 C.2.1 dX11_strike_17 rfl ?_
    refine gf_X11_125_10 C hP dX11_strike_18 ?_
    refine lv_iconst (v := (1 : Int32)) C.1 C.2.1 dX11_strike_21 (by decide) ?_
    refine lv_isub C.1 C.2.1 dX11_strike_22 ?_
    refine pf_X11_125_10 C hP hS dX11_strike_23 (fun H locs hP hS => ?_)
    refine lv_aload_n C.1 C.2.1 dX11_strike_26 rfl (lv_at hl 0 rfl) ?_
    refine gf_X11_42_0 C hP dX11_strike_27 ?_
    refine gf_X11_125_10 C hP dX11_strike_30 ?_
    refine w_rd (show (pt σ 10 5 ((σ 10 5) - (1 : Int32))) 10 5 = (σ 10 5) - (1 : Int32) from rfl) ?_
    cases hD
    exact ri_X C hr hP hS dX11_strike_33
  · have hD := b_t c1 hD
    refine lv_bipush (v := (-103 : Int32)) C.1 C.2.1 dX11_strike_10 (by decide) ?_
    cases hD
    exact ri_X C hr hP hS dX11_strike_12
abbrev rm_X11_swap : Room := { frames := 1, cells := 0, slots := 0, locals := 21 }
set_option maxHeartbeats 4000000 in
set_option maxRecDepth 100000 in
theorem c_X11_swap (l : Launch) (g : Gx) (sz : Nat) (σ : St) (x1 : Int32) (x2 : Int32) {r : Int32} {u : St} (hD : D_X11_swap σ x1 x2 = some (r, u)) : Met l yX11_swap (Cond.code yX11_swap cX11_swap 4 (some .int) :: tb) rm_X11_swap (PcX g [.ref (g.2.2 0), .int x1, .int x2] σ sz) (QiX g (AX g sz) r u) 0 0 (AX g sz) := by
  refine Met.ofW (cc := cX11_swap) (maxL := 4) (ret := some .int) (by decide) rfl ?_
  intro p e s m args below meth c s₁ B hml hv
  have hv0 := hv
  obtain ⟨rfl, hsz, hP, -⟩ := hv
  subst hsz
  have C : CX g (AX g s.heap.size) p s m _ meth c cX11_swap 4 RX11 := CX.of B hml (fun w h => List.mem_cons_of_mem _ h) rfl hv0
  have hr := B.returns
  have hS : va_S (AX g s.heap.size) s.heap s.heap [] := va_S.rf
  have hl := lv_entry ([.ref (g.2.2 0), .int x1, .int x2]) (n := 4) (Nat.le_of_ble_eq_true rfl)
  rw [lg_entry_eq]
  generalize (lg_sl ([.ref (g.2.2 0), .int x1, .int x2]) ++ List.replicate (4 - (lg_sl ([.ref (g.2.2 0), .int x1, .int x2])).length) Slot.unset).toArray = ls at hl ⊢
  have hl : lv_has ls 4 [(0, .ref (g.2.2 0)), (1, .int x1), (2, .int x2)] := hl
  obtain ⟨H, hH⟩ : ∃ H, H = s.heap := ⟨_, rfl⟩
  have hP : va_P g.1 vwCl (wX g σ) H := by rw [hH]; exact hP
  have hS : va_S (AX g s.heap.size) s.heap H [] := by rw [hH]; exact hS
  refine wH hH ?_
  obtain ⟨locs, hlo⟩ : ∃ locs : List Loc, locs = [] := ⟨_, rfl⟩
  rw [← hlo] at hS
  refine wL hlo ?_
  unfold D_X11_swap at hD
  refine lv_aload_n C.1 C.2.1 dX11_swap_0 rfl (lv_at hl 0 rfl) ?_
  refine lv_iload_n C.1 C.2.1 dX11_swap_1 rfl (lv_at hl 1 rfl) ?_
  obtain ⟨r1, hd1, hD⟩ := bp_some hD
  refine kVi_X (As := [.int x1]) (rest := []) (ci := 11) (q0 := 0) C (c_X11_isJudge l g H.size σ x1 hd1) kw_X11_134 ⟨rfl, rfl⟩ ⟨Nat.le_of_ble_eq_true rfl, Nat.le_of_ble_eq_true rfl⟩ kv_X11_isJudge rfl rfl rfl hl.1 (Nat.le_of_ble_eq_true rfl) ⟨Nat.zero_le _, Nat.zero_le _⟩ dX11_swap_2 hP hS rfl (fun H locs hP hS => ?_)
  refine lv_if_ne (tgt := 11) C.1 C.2.1 dX11_swap_5 (by decide) (fun c2 => ?_) (fun c2 => ?_)
  · have hD := b_f c2 hD
    refine lv_iload_n C.1 C.2.1 dX11_swap_11 rfl (lv_at hl 2 rfl) ?_
    obtain ⟨r3, hd3, hD⟩ := bp_some hD
    refine kSi_X (As := [.int x2]) (rest := []) C (c_X11_isKind l g H.size σ x2 hd3) kw_X11_155 ⟨rfl, rfl⟩ ⟨Nat.le_of_ble_eq_true rfl, Nat.le_of_ble_eq_true rfl⟩ ks_X11_isKind rfl hl.1 (Nat.le_of_ble_eq_true rfl) ⟨Nat.zero_le _, Nat.zero_le _⟩ dX11_swap_12 hP hS rfl (fun H locs hP hS => ?_)
    refine lv_if_ne (tgt := 21) C.1 C.2.1 dX11_swap_15 (by decide) (fun c4 => ?_) (fun c4 => ?_)
    · have hD := b_f c4 hD
      refine lv_aload_n C.1 C.2.1 dX11_swap_21 rfl (lv_at hl 0 rfl) ?_
      refine gf_X11_42_0 C hP dX11_swap_22 ?_
      refine gf_X11_113_10 C hP dX11_swap_25 ?_
      refine lv_iload_n C.1 C.2.1 dX11_swap_28 rfl (lv_at hl 1 rfl) ?_
      obtain ⟨hi5, hD⟩ := gi_some hD
      refine iaX C hP 11 rfl hi5 dX11_swap_29 ?_
      refine lv_istore_n (lv' := [(3, .int (σ 11 x1.toNatClampNeg)), (0, .ref (g.2.2 0)), (1, .int x1), (2, .int x2)]) C.1 C.2.1 dX11_swap_30 rfl hl (by decide) rfl (fun ls hl => ?_)
      refine lv_aload_n C.1 C.2.1 dX11_swap_31 rfl (lv_at hl 1 rfl) ?_
      refine gf_X11_42_0 C hP dX11_swap_32 ?_
      refine gf_X11_113_10 C hP dX11_swap_35 ?_
      refine lv_iload_n C.1 C.2.1 dX11_swap_38 rfl (lv_at hl 2 rfl) ?_
      refine lv_iload_n C.1 C.2.1 dX11_swap_39 rfl (lv_at hl 3 rfl) ?_
      obtain ⟨hi6, hD⟩ := gi_some hD
      refine isX C hP hS 11 rfl hi6 dX11_swap_40 st_11 (fun H locs hP hS => ?_)
      refine lv_iload_n C.1 C.2.1 dX11_swap_41 rfl (lv_at hl 0 rfl) ?_
      cases hD
      exact ri_X C hr hP hS dX11_swap_42
    · have hD := b_t c4 hD
      refine lv_bipush (v := (-102 : Int32)) C.1 C.2.1 dX11_swap_18 (by decide) ?_
      cases hD
      exact ri_X C hr hP hS dX11_swap_20
  · have hD := b_t c2 hD
    refine lv_bipush (v := (-101 : Int32)) C.1 C.2.1 dX11_swap_8 (by decide) ?_
    cases hD
    exact ri_X C hr hP hS dX11_swap_10
abbrev rm_X11_tells : Room := { frames := 3, cells := 0, slots := 0, locals := 65 }
set_option maxHeartbeats 4000000 in
set_option maxRecDepth 100000 in
theorem c_X11_tells (l : Launch) (g : Gx) (sz : Nat) (σ : St) (x1 : Int32) (x2 : Int32) (x3 : Int32) {r : Int32} (hD : D_X11_tells σ x1 x2 x3 = some r) : Met l yX11_tells (Cond.code yX11_tells cX11_tells 4 (some .int) :: tb) rm_X11_tells (PcX g [.ref (g.2.2 0), .int x1, .int x2, .int x3] σ sz) (QiX g (AX g sz) r σ) 0 0 (AX g sz) := by
  refine Met.ofW (cc := cX11_tells) (maxL := 4) (ret := some .int) (by decide) rfl ?_
  intro p e s m args below meth c s₁ B hml hv
  have hv0 := hv
  obtain ⟨rfl, hsz, hP, -⟩ := hv
  subst hsz
  have C : CX g (AX g s.heap.size) p s m _ meth c cX11_tells 4 RX11 := CX.of B hml (fun w h => List.mem_cons_of_mem _ h) rfl hv0
  have hr := B.returns
  have hS : va_S (AX g s.heap.size) s.heap s.heap [] := va_S.rf
  have hl := lv_entry ([.ref (g.2.2 0), .int x1, .int x2, .int x3]) (n := 4) (Nat.le_of_ble_eq_true rfl)
  rw [lg_entry_eq]
  generalize (lg_sl ([.ref (g.2.2 0), .int x1, .int x2, .int x3]) ++ List.replicate (4 - (lg_sl ([.ref (g.2.2 0), .int x1, .int x2, .int x3])).length) Slot.unset).toArray = ls at hl ⊢
  have hl : lv_has ls 4 [(0, .ref (g.2.2 0)), (1, .int x1), (2, .int x2), (3, .int x3)] := hl
  obtain ⟨H, hH⟩ : ∃ H, H = s.heap := ⟨_, rfl⟩
  have hP : va_P g.1 vwCl (wX g σ) H := by rw [hH]; exact hP
  have hS : va_S (AX g s.heap.size) s.heap H [] := by rw [hH]; exact hS
  refine wH hH ?_
  obtain ⟨locs, hlo⟩ : ∃ locs : List Loc, locs = [] := ⟨_, rfl⟩
  rw [← hlo] at hS
  refine wL hlo ?_
  unfold D_X11_tells at hD
  refine lv_aload_n C.1 C.2.1 dX11_tells_0 rfl (lv_at hl 0 rfl) ?_
  refine lv_iload_n C.1 C.2.1 dX11_tells_1 rfl (lv_at hl 1 rfl) ?_
  obtain ⟨r1, hd1, hD⟩ := bp_some hD
  refine kVi_X (As := [.int x1]) (rest := []) (ci := 11) (q0 := 0) C (c_X11_isJudge l g H.size σ x1 hd1) kw_X11_134 ⟨rfl, rfl⟩ ⟨Nat.le_of_ble_eq_true rfl, Nat.le_of_ble_eq_true rfl⟩ kv_X11_isJudge rfl rfl rfl hl.1 (Nat.le_of_ble_eq_true rfl) ⟨Nat.zero_le _, Nat.zero_le _⟩ dX11_tells_2 hP hS rfl (fun H locs hP hS => ?_)
  refine lv_if_eq (tgt := 24) C.1 C.2.1 dX11_tells_5 (by decide) (fun c2 => ?_) (fun c2 => ?_)
  · have hD := b_t c2 hD
    refine lv_bipush (v := (-101 : Int32)) C.1 C.2.1 dX11_tells_24 (by decide) ?_
    cases hD
    exact ri_X C hr hP hS dX11_tells_26
  · have hD := b_f c2 hD
    refine lv_aload_n C.1 C.2.1 dX11_tells_8 rfl (lv_at hl 0 rfl) ?_
    refine lv_iload_n C.1 C.2.1 dX11_tells_9 rfl (lv_at hl 2 rfl) ?_
    obtain ⟨r3, hd3, hD⟩ := bp_some hD
    refine kVi_X (As := [.int x2]) (rest := []) (ci := 11) (q0 := 0) C (c_X11_isRow l g H.size σ x2 hd3) kw_X11_162 ⟨rfl, rfl⟩ ⟨Nat.le_of_ble_eq_true rfl, Nat.le_of_ble_eq_true rfl⟩ kv_X11_isRow rfl rfl rfl hl.1 (Nat.le_of_ble_eq_true rfl) ⟨Nat.zero_le _, Nat.zero_le _⟩ dX11_tells_10 hP hS rfl (fun H locs hP hS => ?_)
    refine lv_if_eq (tgt := 24) C.1 C.2.1 dX11_tells_13 (by decide) (fun c4 => ?_) (fun c4 => ?_)
    · have hD := b_t c4 hD
      refine lv_bipush (v := (-101 : Int32)) C.1 C.2.1 dX11_tells_24 (by decide) ?_
      cases hD
      exact ri_X C hr hP hS dX11_tells_26
    · have hD := b_f c4 hD
      refine lv_aload_n C.1 C.2.1 dX11_tells_16 rfl (lv_at hl 0 rfl) ?_
      refine lv_iload_n C.1 C.2.1 dX11_tells_17 rfl (lv_at hl 3 rfl) ?_
      obtain ⟨r5, hd5, hD⟩ := bp_some hD
      refine kVi_X (As := [.int x3]) (rest := []) (ci := 11) (q0 := 0) C (c_X11_isRow l g H.size σ x3 hd5) kw_X11_162 ⟨rfl, rfl⟩ ⟨Nat.le_of_ble_eq_true rfl, Nat.le_of_ble_eq_true rfl⟩ kv_X11_isRow rfl rfl rfl hl.1 (Nat.le_of_ble_eq_true rfl) ⟨Nat.zero_le _, Nat.zero_le _⟩ dX11_tells_18 hP hS rfl (fun H locs hP hS => ?_)
      refine lv_if_ne (tgt := 27) C.1 C.2.1 dX11_tells_21 (by decide) (fun c6 => ?_) (fun c6 => ?_)
      · have hD := b_f c6 hD
        refine lv_aload_n C.1 C.2.1 dX11_tells_27 rfl (lv_at hl 0 rfl) ?_
        refine lv_iload_n C.1 C.2.1 dX11_tells_28 rfl (lv_at hl 1 rfl) ?_
        obtain ⟨r7, hd7, hD⟩ := bp_some hD
        refine kVr_X (As := [.int x1]) (rest := []) (ci := 11) (q0 := 0) C (c_X11_judgeAt l g H.size σ x1 hd7) kw_X11_147 ⟨rfl, rfl⟩ ⟨Nat.le_of_ble_eq_true rfl, Nat.le_of_ble_eq_true rfl⟩ kv_X11_judgeAt rfl rfl rfl hl.1 (Nat.le_of_ble_eq_true rfl) ⟨Nat.zero_le _, Nat.zero_le _⟩ dX11_tells_29 hP hS rfl (fun H locs hP hS => ?_)
        refine lv_aload_n C.1 C.2.1 dX11_tells_32 rfl (lv_at hl 0 rfl) ?_
        refine gf_X11_57_0 C hP dX11_tells_33 ?_
        refine lv_iload_n C.1 C.2.1 dX11_tells_36 rfl (lv_at hl 2 rfl) ?_
        refine lv_iload_n C.1 C.2.1 dX11_tells_37 rfl (lv_at hl 3 rfl) ?_
        obtain ⟨r8, hd8, hD⟩ := bp_some hD
        refine kW_X11_174 C hd8 ⟨Nat.le_of_ble_eq_true rfl, Nat.le_of_ble_eq_true rfl⟩ hl.1 (Nat.le_of_ble_eq_true rfl) ⟨Nat.zero_le _, Nat.zero_le _⟩ dX11_tells_38 hP hS (fun H locs hP hS => ?_)
        cases hD
        exact ri_X C hr hP hS dX11_tells_41
      · have hD := b_t c6 hD
        refine lv_bipush (v := (-101 : Int32)) C.1 C.2.1 dX11_tells_24 (by decide) ?_
        cases hD
        exact ri_X C hr hP hS dX11_tells_26
abbrev rm_X9_draw : Room := { frames := 0, cells := 0, slots := 0, locals := 0 }
set_option maxHeartbeats 4000000 in
set_option maxRecDepth 100000 in
theorem c_X9_draw (l : Launch) (g : Gx) (sz : Nat) (σ : St) (x1 : Int32) {r : Int32} {u : St} (hD : D_X9_draw σ x1 = some (r, u)) : Met l yX9_draw (Cond.code yX9_draw cX9_draw 2 (some .int) :: tb) rm_X9_draw (PcX g [.ref (g.2.2 30), .int x1] σ sz) (QiX g (AX g sz) r u) 0 0 (AX g sz) := by
  refine Met.ofW (cc := cX9_draw) (maxL := 2) (ret := some .int) (by decide) rfl ?_
  intro p e s m args below meth c s₁ B hml hv
  have hv0 := hv
  obtain ⟨rfl, hsz, hP, -⟩ := hv
  subst hsz
  have C : CX g (AX g s.heap.size) p s m _ meth c cX9_draw 2 RX9 := CX.of B hml (fun w h => List.mem_cons_of_mem _ h) rfl hv0
  have hr := B.returns
  have hS : va_S (AX g s.heap.size) s.heap s.heap [] := va_S.rf
  have hl := lv_entry ([.ref (g.2.2 30), .int x1]) (n := 2) (Nat.le_of_ble_eq_true rfl)
  rw [lg_entry_eq]
  generalize (lg_sl ([.ref (g.2.2 30), .int x1]) ++ List.replicate (2 - (lg_sl ([.ref (g.2.2 30), .int x1])).length) Slot.unset).toArray = ls at hl ⊢
  have hl : lv_has ls 2 [(0, .ref (g.2.2 30)), (1, .int x1)] := hl
  obtain ⟨H, hH⟩ : ∃ H, H = s.heap := ⟨_, rfl⟩
  have hP : va_P g.1 vwCl (wX g σ) H := by rw [hH]; exact hP
  have hS : va_S (AX g s.heap.size) s.heap H [] := by rw [hH]; exact hS
  refine wH hH ?_
  obtain ⟨locs, hlo⟩ : ∃ locs : List Loc, locs = [] := ⟨_, rfl⟩
  rw [← hlo] at hS
  refine wL hlo ?_
  unfold D_X9_draw at hD
  refine lv_aload_n C.1 C.2.1 dX9_draw_0 rfl (lv_at hl 0 rfl) ?_
  refine lv_ldc2 (v := (1103515245 : Int64)) (own := RX9) C.1 C.2.1 C.2.2.2.1 (C.2.2.2.2.1 (.constantLong RX9 64 (1103515245 : Int64)) (tb_in 729 (by decide +kernel) (by decide +kernel))) dX9_draw_1 ?_
  refine lv_aload_n C.1 C.2.1 dX9_draw_4 rfl (lv_at hl 0 rfl) ?_
  refine gf_X9_17_30 C hP dX9_draw_5 ?_
  refine lv_i2l C.1 C.2.1 dX9_draw_8 rfl ?_
  refine lv_lmul C.1 C.2.1 dX9_draw_9 ?_
  refine lv_ldc2 (v := (12345 : Int64)) (own := RX9) C.1 C.2.1 C.2.2.2.1 (C.2.2.2.2.1 (.constantLong RX9 66 (12345 : Int64)) (tb_in 730 (by decide +kernel) (by decide +kernel))) dX9_draw_10 ?_
  refine lv_ladd C.1 C.2.1 dX9_draw_13 ?_
  refine lv_ldc2 (v := (2147483647 : Int64)) (own := RX9) C.1 C.2.1 C.2.2.2.1 (C.2.2.2.2.1 (.constantLong RX9 68 (2147483647 : Int64)) (tb_in 731 (by decide +kernel) (by decide +kernel))) dX9_draw_14 ?_
  refine lv_land C.1 C.2.1 dX9_draw_17 ?_
  refine lv_l2i C.1 C.2.1 dX9_draw_18 rfl ?_
  refine pf_X9_17_30 C hP hS dX9_draw_19 (fun H locs hP hS => ?_)
  refine lv_iload_n C.1 C.2.1 dX9_draw_22 rfl (lv_at hl 1 rfl) ?_
  refine lv_if_le (tgt := 38) C.1 C.2.1 dX9_draw_23 (by decide) (fun c1 => ?_) (fun c1 => ?_)
  · have hD := b_t c1 hD
    refine lv_iconst (v := (0 : Int32)) C.1 C.2.1 dX9_draw_38 (by decide) ?_
    cases hD
    exact ri_X C hr hP hS dX9_draw_39
  · have hD := b_f c1 hD
    refine lv_aload_n C.1 C.2.1 dX9_draw_26 rfl (lv_at hl 0 rfl) ?_
    refine gf_X9_17_30 C hP dX9_draw_27 ?_
    refine w_rd (show (pt σ 30 4 (((((1103515245 : Int64) * ((σ 30 4).toInt64)) + (12345 : Int64)) &&& (2147483647 : Int64)).toInt32)) 30 4 = ((((1103515245 : Int64) * ((σ 30 4).toInt64)) + (12345 : Int64)) &&& (2147483647 : Int64)).toInt32 from rfl) ?_
    refine lv_ldc (v := (65536 : Int32)) (own := RX9) C.1 C.2.1 C.2.2.2.1 (C.2.2.2.2.1 (.constant RX9 70 (65536 : Int32)) (tb_in 732 (by decide +kernel) (by decide +kernel))) dX9_draw_30 ?_
    refine lv_idiv C.1 C.2.1 dX9_draw_32 (by decide) ?_
    refine lv_iload_n C.1 C.2.1 dX9_draw_33 rfl (lv_at hl 1 rfl) ?_
    obtain ⟨hz3, hD⟩ := gz_some hD
    refine lv_irem C.1 C.2.1 dX9_draw_34 hz3 ?_
    refine lv_goto (tgt := 39) C.1 C.2.1 dX9_draw_35 (by decide) ?_
    cases hD
    exact ri_X C hr hP hS dX9_draw_39
abbrev rm_X5_drop : Room := { frames := 0, cells := 0, slots := 0, locals := 0 }
set_option maxHeartbeats 4000000 in
set_option maxRecDepth 100000 in
theorem w_L_X5_drop_4 (C : CX g A p s m args meth c cX5_drop 4 RX5) (hr : meth.sig.returnType = none) (N : Nat) {u : St} (x1 : Int32) : ∀ (n : Nat) (x2 : Int32) (x3 : Int32) (σ : St) (H : Heap) (locs : List Loc) (ls : Array Slot), lv_has ls 4 [(0, .ref (g.2.2 24)), (1, .int x1), (2, .int x2), (3, .int x3)] → va_P g.1 vwCl (wX g σ) H → va_S A s.heap H locs → L_X5_drop_4 N x1 n x2 x3 σ = some u → W p l e rm_X5_drop s m args below meth c H locs 0 0 (MQ below (QvX g A u) args s 0 0 A) (F0 m 4 ls []) := by
  intro n
  induction n with
  | zero =>
    intro x2 x3 σ H locs ls hl hP hS hD
    rw [L_X5_drop_4] at hD
    cases hD
  | succ n ih =>
    intro x2 x3 σ H locs ls hl hP hS hD
    rw [L_X5_drop_4] at hD
    refine lv_iload_n C.1 C.2.1 dX5_drop_4 rfl (lv_at hl 3 rfl) ?_
    refine lv_aload_n C.1 C.2.1 dX5_drop_5 rfl (lv_at hl 0 rfl) ?_
    refine gf_X5_32_24 C hP dX5_drop_6 ?_
    refine lv_icmp_ge (tgt := 43) C.1 C.2.1 dX5_drop_9 (by decide) (fun c1 => ?_) (fun c1 => ?_)
    · have hD := b_t c1 hD
      refine lv_aload_n C.1 C.2.1 dX5_drop_43 rfl (lv_at hl 0 rfl) ?_
      refine lv_iload_n C.1 C.2.1 dX5_drop_44 rfl (lv_at hl 2 rfl) ?_
      refine pf_X5_32_24 C hP hS dX5_drop_45 (fun H locs hP hS => ?_)
      refine lv_aload_n C.1 C.2.1 dX5_drop_48 rfl (lv_at hl 0 rfl) ?_
      refine gf_X5_15_24 C hP dX5_drop_49 ?_
      refine lv_iload_n C.1 C.2.1 dX5_drop_52 rfl (lv_at hl 1 rfl) ?_
      refine lv_iconst (v := (0 : Int32)) C.1 C.2.1 dX5_drop_53 (by decide) ?_
      obtain ⟨hi2, hD⟩ := gi_some hD
      refine zsX C hP hS 26 rfl (by decide) hi2 dX5_drop_54 st_26 (fun H locs hP hS => ?_)
      cases hD
      exact rv_X C hr hP hS dX5_drop_55
    · have hD := b_f c1 hD
      refine lv_aload_n C.1 C.2.1 dX5_drop_12 rfl (lv_at hl 0 rfl) ?_
      refine gf_X5_9_24 C hP dX5_drop_13 ?_
      refine lv_iload_n C.1 C.2.1 dX5_drop_16 rfl (lv_at hl 3 rfl) ?_
      obtain ⟨hi3, hD⟩ := gi_some hD
      refine iaX C hP 25 rfl hi3 dX5_drop_17 ?_
      refine lv_iload_n C.1 C.2.1 dX5_drop_18 rfl (lv_at hl 1 rfl) ?_
      refine lv_icmp_eq (tgt := 37) C.1 C.2.1 dX5_drop_19 (by decide) (fun c4 => ?_) (fun c4 => ?_)
      · have hD := b_t c4 hD
        refine lv_iinc (v := x3 + (1 : Int32)) (lv' := [(3, .int (x3 + (1 : Int32))), (0, .ref (g.2.2 24)), (1, .int x1), (2, .int x2)]) C.1 C.2.1 dX5_drop_37 hl (k := 3) rfl rfl (by decide) rfl (fun ls hl => ?_)
        refine lv_goto (tgt := 4) C.1 C.2.1 dX5_drop_40 (by decide) ?_
        exact ih x2 (x3 + (1 : Int32)) σ H locs ls (lv_sub hl [1, 2, 3, 0] rfl) hP hS hD
      · have hD := b_f c4 hD
        refine lv_aload_n C.1 C.2.1 dX5_drop_22 rfl (lv_at hl 0 rfl) ?_
        refine gf_X5_9_24 C hP dX5_drop_23 ?_
        refine lv_iload_n C.1 C.2.1 dX5_drop_26 rfl (lv_at hl 2 rfl) ?_
        refine lv_aload_n C.1 C.2.1 dX5_drop_27 rfl (lv_at hl 0 rfl) ?_
        refine gf_X5_9_24 C hP dX5_drop_28 ?_
        refine lv_iload_n C.1 C.2.1 dX5_drop_31 rfl (lv_at hl 3 rfl) ?_
        obtain ⟨hi5, hD⟩ := gi_some hD
        refine iaX C hP 25 rfl hi5 dX5_drop_32 ?_
        obtain ⟨hi6, hD⟩ := gi_some hD
        refine isX C hP hS 25 rfl hi6 dX5_drop_33 st_25 (fun H locs hP hS => ?_)
        refine lv_iinc (v := x2 + (1 : Int32)) (lv' := [(2, .int (x2 + (1 : Int32))), (0, .ref (g.2.2 24)), (1, .int x1), (3, .int x3)]) C.1 C.2.1 dX5_drop_34 hl (k := 2) rfl rfl (by decide) rfl (fun ls hl => ?_)
        refine lv_iinc (v := x3 + (1 : Int32)) (lv' := [(3, .int (x3 + (1 : Int32))), (2, .int (x2 + (1 : Int32))), (0, .ref (g.2.2 24)), (1, .int x1)]) C.1 C.2.1 dX5_drop_37 hl (k := 3) rfl rfl (by decide) rfl (fun ls hl => ?_)
        refine lv_goto (tgt := 4) C.1 C.2.1 dX5_drop_40 (by decide) ?_
        exact ih (x2 + (1 : Int32)) (x3 + (1 : Int32)) (pt σ 25 x2.toNatClampNeg (σ 25 x3.toNatClampNeg)) H locs ls (lv_sub hl [2, 3, 1, 0] rfl) hP hS hD
set_option maxHeartbeats 4000000 in
set_option maxRecDepth 100000 in
theorem c_X5_drop (l : Launch) (g : Gx) (sz : Nat) (N : Nat) (σ : St) (x1 : Int32) {u : St} (hD : D_X5_drop N σ x1 = some u) : Met l yX5_drop (Cond.code yX5_drop cX5_drop 4 (none) :: tb) rm_X5_drop (PcX g [.ref (g.2.2 24), .int x1] σ sz) (QvX g (AX g sz) u) 0 0 (AX g sz) := by
  refine Met.ofW (cc := cX5_drop) (maxL := 4) (ret := none) (by decide) rfl ?_
  intro p e s m args below meth c s₁ B hml hv
  have hv0 := hv
  obtain ⟨rfl, hsz, hP, -⟩ := hv
  subst hsz
  have C : CX g (AX g s.heap.size) p s m _ meth c cX5_drop 4 RX5 := CX.of B hml (fun w h => List.mem_cons_of_mem _ h) rfl hv0
  have hr := B.returns
  have hS : va_S (AX g s.heap.size) s.heap s.heap [] := va_S.rf
  have hl := lv_entry ([.ref (g.2.2 24), .int x1]) (n := 4) (Nat.le_of_ble_eq_true rfl)
  rw [lg_entry_eq]
  generalize (lg_sl ([.ref (g.2.2 24), .int x1]) ++ List.replicate (4 - (lg_sl ([.ref (g.2.2 24), .int x1])).length) Slot.unset).toArray = ls at hl ⊢
  have hl : lv_has ls 4 [(0, .ref (g.2.2 24)), (1, .int x1)] := hl
  obtain ⟨H, hH⟩ : ∃ H, H = s.heap := ⟨_, rfl⟩
  have hP : va_P g.1 vwCl (wX g σ) H := by rw [hH]; exact hP
  have hS : va_S (AX g s.heap.size) s.heap H [] := by rw [hH]; exact hS
  refine wH hH ?_
  obtain ⟨locs, hlo⟩ : ∃ locs : List Loc, locs = [] := ⟨_, rfl⟩
  rw [← hlo] at hS
  refine wL hlo ?_
  unfold D_X5_drop at hD
  refine lv_iconst (v := (0 : Int32)) C.1 C.2.1 dX5_drop_0 (by decide) ?_
  refine lv_istore_n (lv' := [(2, .int (0 : Int32)), (0, .ref (g.2.2 24)), (1, .int x1)]) C.1 C.2.1 dX5_drop_1 rfl hl (by decide) rfl (fun ls hl => ?_)
  refine lv_iconst (v := (0 : Int32)) C.1 C.2.1 dX5_drop_2 (by decide) ?_
  refine lv_istore_n (lv' := [(3, .int (0 : Int32)), (2, .int (0 : Int32)), (0, .ref (g.2.2 24)), (1, .int x1)]) C.1 C.2.1 dX5_drop_3 rfl hl (by decide) rfl (fun ls hl => ?_)
  exact w_L_X5_drop_4 C hr N x1 N (0 : Int32) (0 : Int32) σ H locs ls (lv_sub hl [2, 3, 1, 0] rfl) hP hS hD
abbrev rm_X9_playOne : Room := { frames := 4, cells := 0, slots := 0, locals := 91 }
set_option maxHeartbeats 4000000 in
set_option maxRecDepth 100000 in
theorem w_L_X9_playOne_21 (C : CX g A p s m args meth c cX9_playOne 5 RX9) (hr : meth.sig.returnType = some .int) (N : Nat) {r : Int32} {u : St} (k1 : Nat) (x2 : Int32) : ∀ (n : Nat) (x3 : Int32) (σ : St) (H : Heap) (locs : List Loc) (ls : Array Slot), lv_has ls 5 [(0, .ref (g.2.2 30)), (1, .ref (g.2.2 (4 + k1))), (2, .int x2), (3, .int x3)] → va_P g.1 vwCl (wX g σ) H → va_S A s.heap H locs → L_X9_playOne_21 N k1 x2 n x3 σ = some (r, u) → W p l e rm_X9_playOne s m args below meth c H locs 0 0 (MQ below (QiX g A r u) args s 0 0 A) (F0 m 21 ls []) := by
  intro n
  induction n with
  | zero =>
    intro x3 σ H locs ls hl hP hS hD
    rw [L_X9_playOne_21] at hD
    cases hD
  | succ n ih =>
    intro x3 σ H locs ls hl hP hS hD
    rw [L_X9_playOne_21] at hD
    refine lv_iload_n C.1 C.2.1 dX9_playOne_21 rfl (lv_at hl 3 rfl) ?_
    refine lv_aload_n C.1 C.2.1 dX9_playOne_22 rfl (lv_at hl 0 rfl) ?_
    refine gf_X9_7_30 C hP dX9_playOne_23 ?_
    refine gf_X9_31_20 C hP dX9_playOne_26 ?_
    refine lv_icmp_gt (tgt := 97) C.1 C.2.1 dX9_playOne_29 (by decide) (fun c3 => ?_) (fun c3 => ?_)
    · have hD := b_t c3 hD
      refine lv_aload_n C.1 C.2.1 dX9_playOne_97 rfl (lv_at hl 0 rfl) ?_
      refine gf_X9_7_30 C hP dX9_playOne_98 ?_
      refine gf_X9_31_20 C hP dX9_playOne_101 ?_
      cases hD
      exact ri_X C hr hP hS dX9_playOne_104
    · have hD := b_f c3 hD
      refine lv_aload_n C.1 C.2.1 dX9_playOne_32 rfl (lv_at hl 0 rfl) ?_
      refine gf_X9_13_30 C hP dX9_playOne_33 ?_
      refine gf_X9_45_24 C hP dX9_playOne_36 ?_
      refine lv_aload_n C.1 C.2.1 dX9_playOne_39 rfl (lv_at hl 0 rfl) ?_
      refine lv_aload_n C.1 C.2.1 dX9_playOne_40 rfl (lv_at hl 0 rfl) ?_
      refine gf_X9_13_30 C hP dX9_playOne_41 ?_
      refine gf_X9_49_24 C hP dX9_playOne_44 ?_
      obtain ⟨r4, s4, hd4, hD⟩ := bs_some hD
      refine kVi_X (As := [.int (σ 24 2)]) (rest := [.ref (g.2.2 25)]) (ci := 9) (q0 := 30) C (c_X9_draw l g H.size σ (σ 24 2) hd4) kw_X9_36 ⟨rfl, rfl⟩ ⟨Nat.le_of_ble_eq_true rfl, Nat.le_of_ble_eq_true rfl⟩ kv_X9_draw rfl rfl rfl hl.1 (Nat.le_of_ble_eq_true rfl) ⟨Nat.zero_le _, Nat.zero_le _⟩ dX9_playOne_47 hP hS rfl (fun H locs hP hS => ?_)
      obtain ⟨hi5, hD⟩ := gi_some hD
      refine iaX C hP 25 rfl hi5 dX9_playOne_50 ?_
      refine lv_istore (lv' := [(4, .int (s4 25 r4.toNatClampNeg)), (0, .ref (g.2.2 30)), (1, .ref (g.2.2 (4 + k1))), (2, .int x2), (3, .int x3)]) C.1 C.2.1 dX9_playOne_51 hl (by decide) rfl (fun ls hl => ?_)
      refine lv_iload C.1 C.2.1 dX9_playOne_53 (lv_at hl 0 rfl) ?_
      refine lv_iload_n C.1 C.2.1 dX9_playOne_55 rfl (lv_at hl 3 rfl) ?_
      refine lv_icmp_ne (tgt := 61) C.1 C.2.1 dX9_playOne_56 (by decide) (fun c6 => ?_) (fun c6 => ?_)
      · have hD := b_f c6 hD
        refine lv_aload_n C.1 C.2.1 dX9_playOne_61 rfl (lv_at hl 1 rfl) ?_
        refine gf_X9_13_30 C hP dX9_playOne_62 ?_
        refine lv_aload_n C.1 C.2.1 dX9_playOne_65 rfl (lv_at hl 2 rfl) ?_
        refine lv_iload C.1 C.2.1 dX9_playOne_66 (lv_at hl 0 rfl) ?_
        refine lv_aload_n C.1 C.2.1 dX9_playOne_68 rfl (lv_at hl 2 rfl) ?_
        refine lv_aload_n C.1 C.2.1 dX9_playOne_69 rfl (lv_at hl 1 rfl) ?_
        refine gf_X9_7_30 C hP dX9_playOne_70 ?_
        refine lv_iload C.1 C.2.1 dX9_playOne_73 (lv_at hl 0 rfl) ?_
        refine lv_iload_n C.1 C.2.1 dX9_playOne_75 rfl (lv_at hl 3 rfl) ?_
        obtain ⟨r7, hd7, hD⟩ := bp_some hD
        refine kW_X9_50 C hd7 ⟨Nat.le_of_ble_eq_true rfl, Nat.le_of_ble_eq_true rfl⟩ hl.1 (Nat.le_of_ble_eq_true rfl) ⟨Nat.zero_le _, Nat.zero_le _⟩ dX9_playOne_76 hP hS (fun H locs hP hS => ?_)
        obtain ⟨s8, hd8, hD⟩ := bp_some hD
        refine kVv_X (As := [.ref (g.2.2 (4 + k1)), .int (s4 25 r4.toNatClampNeg), .int r7]) (rest := []) (ci := 5) (q0 := 24) C (c_X5_keep l g H.size N s4 k1 (s4 25 r4.toNatClampNeg) r7 hd8) kw_X9_56 ⟨rfl, rfl⟩ ⟨Nat.le_of_ble_eq_true rfl, Nat.le_of_ble_eq_true rfl⟩ kv_X5_keep rfl rfl rfl hl.1 (Nat.le_of_ble_eq_true rfl) ⟨Nat.zero_le _, Nat.zero_le _⟩ dX9_playOne_79 hP hS rfl (fun H locs hP hS => ?_)
        refine lv_aload_n C.1 C.2.1 dX9_playOne_82 rfl (lv_at hl 1 rfl) ?_
        refine gf_X9_13_30 C hP dX9_playOne_83 ?_
        refine lv_iload C.1 C.2.1 dX9_playOne_86 (lv_at hl 0 rfl) ?_
        obtain ⟨s9, hd9, hD⟩ := bp_some hD
        refine kVv_X (As := [.int (s4 25 r4.toNatClampNeg)]) (rest := []) (ci := 5) (q0 := 24) C (c_X5_drop l g H.size N s8 (s4 25 r4.toNatClampNeg) hd9) kw_X9_60 ⟨rfl, rfl⟩ ⟨Nat.le_of_ble_eq_true rfl, Nat.le_of_ble_eq_true rfl⟩ kv_X5_drop rfl rfl rfl hl.1 (Nat.le_of_ble_eq_true rfl) ⟨Nat.zero_le _, Nat.zero_le _⟩ dX9_playOne_88 hP hS rfl (fun H locs hP hS => ?_)
        refine lv_iinc (v := x3 + (1 : Int32)) (lv' := [(3, .int (x3 + (1 : Int32))), (4, .int (s4 25 r4.toNatClampNeg)), (0, .ref (g.2.2 30)), (1, .ref (g.2.2 (4 + k1))), (2, .int x2)]) C.1 C.2.1 dX9_playOne_91 hl (k := 4) rfl rfl (by decide) rfl (fun ls hl => ?_)
        refine lv_goto (tgt := 21) C.1 C.2.1 dX9_playOne_94 (by decide) ?_
        exact ih (x3 + (1 : Int32)) s9 H locs ls (lv_sub hl [2, 3, 4, 0] rfl) hP hS hD
      · have hD := b_t c6 hD
        refine lv_iload_n C.1 C.2.1 dX9_playOne_59 rfl (lv_at hl 4 rfl) ?_
        cases hD
        exact ri_X C hr hP hS dX9_playOne_60
set_option maxHeartbeats 4000000 in
set_option maxRecDepth 100000 in
theorem c_X9_playOne (l : Launch) (g : Gx) (sz : Nat) (N : Nat) (σ : St) (k1 : Nat) {r : Int32} {u : St} (hD : D_X9_playOne N σ k1 = some (r, u)) : Met l yX9_playOne (Cond.code yX9_playOne cX9_playOne 5 (some .int) :: tb) rm_X9_playOne (PcX g [.ref (g.2.2 30), .ref (g.2.2 (4 + k1))] σ sz) (QiX g (AX g sz) r u) 0 0 (AX g sz) := by
  refine Met.ofW (cc := cX9_playOne) (maxL := 5) (ret := some .int) (by decide) rfl ?_
  intro p e s m args below meth c s₁ B hml hv
  have hv0 := hv
  obtain ⟨rfl, hsz, hP, -⟩ := hv
  subst hsz
  have C : CX g (AX g s.heap.size) p s m _ meth c cX9_playOne 5 RX9 := CX.of B hml (fun w h => List.mem_cons_of_mem _ h) rfl hv0
  have hr := B.returns
  have hS : va_S (AX g s.heap.size) s.heap s.heap [] := va_S.rf
  have hl := lv_entry ([.ref (g.2.2 30), .ref (g.2.2 (4 + k1))]) (n := 5) (Nat.le_of_ble_eq_true rfl)
  rw [lg_entry_eq]
  generalize (lg_sl ([.ref (g.2.2 30), .ref (g.2.2 (4 + k1))]) ++ List.replicate (5 - (lg_sl ([.ref (g.2.2 30), .ref (g.2.2 (4 + k1))])).length) Slot.unset).toArray = ls at hl ⊢
  have hl : lv_has ls 5 [(0, .ref (g.2.2 30)), (1, .ref (g.2.2 (4 + k1)))] := hl
  obtain ⟨H, hH⟩ : ∃ H, H = s.heap := ⟨_, rfl⟩
  have hP : va_P g.1 vwCl (wX g σ) H := by rw [hH]; exact hP
  have hS : va_S (AX g s.heap.size) s.heap H [] := by rw [hH]; exact hS
  refine wH hH ?_
  obtain ⟨locs, hlo⟩ : ∃ locs : List Loc, locs = [] := ⟨_, rfl⟩
  rw [← hlo] at hS
  refine wL hlo ?_
  unfold D_X9_playOne at hD
  refine lv_aload_n C.1 C.2.1 dX9_playOne_0 rfl (lv_at hl 0 rfl) ?_
  refine lv_aload_n C.1 C.2.1 dX9_playOne_1 rfl (lv_at hl 0 rfl) ?_
  refine gf_X9_7_30 C hP dX9_playOne_2 ?_
  refine gf_X9_31_20 C hP dX9_playOne_5 ?_
  obtain ⟨r1, s1, hd1, hD⟩ := bs_some hD
  refine kVi_X (As := [.int (σ 20 2)]) (rest := []) (ci := 9) (q0 := 30) C (c_X9_draw l g H.size σ (σ 20 2) hd1) kw_X9_36 ⟨rfl, rfl⟩ ⟨Nat.le_of_ble_eq_true rfl, Nat.le_of_ble_eq_true rfl⟩ kv_X9_draw rfl rfl rfl hl.1 (Nat.le_of_ble_eq_true rfl) ⟨Nat.zero_le _, Nat.zero_le _⟩ dX9_playOne_8 hP hS rfl (fun H locs hP hS => ?_)
  refine lv_istore_n (lv' := [(2, .int r1), (0, .ref (g.2.2 30)), (1, .ref (g.2.2 (4 + k1)))]) C.1 C.2.1 dX9_playOne_11 rfl hl (by decide) rfl (fun ls hl => ?_)
  refine lv_aload_n C.1 C.2.1 dX9_playOne_12 rfl (lv_at hl 1 rfl) ?_
  refine gf_X9_13_30 C hP dX9_playOne_13 ?_
  obtain ⟨s2, hd2, hD⟩ := bp_some hD
  refine kVv_X (As := []) (rest := []) (ci := 5) (q0 := 24) C (c_X5_fill l g H.size N s1 hd2) kw_X9_40 ⟨rfl, rfl⟩ ⟨Nat.le_of_ble_eq_true rfl, Nat.le_of_ble_eq_true rfl⟩ kv_X5_fill rfl rfl rfl hl.1 (Nat.le_of_ble_eq_true rfl) ⟨Nat.zero_le _, Nat.zero_le _⟩ dX9_playOne_16 hP hS rfl (fun H locs hP hS => ?_)
  refine lv_iconst (v := (1 : Int32)) C.1 C.2.1 dX9_playOne_19 (by decide) ?_
  refine lv_istore_n (lv' := [(3, .int (1 : Int32)), (2, .int r1), (0, .ref (g.2.2 30)), (1, .ref (g.2.2 (4 + k1)))]) C.1 C.2.1 dX9_playOne_20 rfl hl (by decide) rfl (fun ls hl => ?_)
  exact w_L_X9_playOne_21 C hr N k1 r1 N (1 : Int32) s2 H locs ls (lv_sub hl [2, 3, 1, 0] rfl) hP hS hD
abbrev rm_X9_play : Room := { frames := 5, cells := 0, slots := 0, locals := 115 }
set_option maxHeartbeats 4000000 in
set_option maxRecDepth 100000 in
theorem w_L_X9_play_18 (C : CX g A p s m args meth c cX9_play 6 RX9) (hr : meth.sig.returnType = none) (N : Nat) {u : St} (k1 : Nat) (x2 : Int32) : ∀ (n : Nat) (x4 : Int32) (σ : St) (H : Heap) (locs : List Loc) (ls : Array Slot), lv_has ls 6 [(0, .ref (g.2.2 30)), (1, .ref (g.2.2 (4 + k1))), (2, .int x2), (4, .int x4)] → va_P g.1 vwCl (wX g σ) H → va_S A s.heap H locs → L_X9_play_18 N k1 x2 n x4 σ = some u → W p l e rm_X9_play s m args below meth c H locs 0 0 (MQ below (QvX g A u) args s 0 0 A) (F0 m 18 ls []) := by
  intro n
  induction n with
  | zero =>
    intro x4 σ H locs ls hl hP hS hD
    rw [L_X9_play_18] at hD
    cases hD
  | succ n ih =>
    intro x4 σ H locs ls hl hP hS hD
    rw [L_X9_play_18] at hD
    refine lv_iload C.1 C.2.1 dX9_play_18 (lv_at hl 3 rfl) ?_
    refine lv_iload_n C.1 C.2.1 dX9_play_20 rfl (lv_at hl 2 rfl) ?_
    refine lv_icmp_ge (tgt := 64) C.1 C.2.1 dX9_play_21 (by decide) (fun c1 => ?_) (fun c1 => ?_)
    · have hD := b_t c1 hD
      cases hD
      exact rv_X C hr hP hS dX9_play_64
    · have hD := b_f c1 hD
      refine lv_aload_n C.1 C.2.1 dX9_play_24 rfl (lv_at hl 0 rfl) ?_
      refine lv_aload_n C.1 C.2.1 dX9_play_25 rfl (lv_at hl 1 rfl) ?_
      obtain ⟨r2, s2, hd2, hD⟩ := bs_some hD
      refine kVi_X (As := [.ref (g.2.2 (4 + k1))]) (rest := []) (ci := 9) (q0 := 30) C (c_X9_playOne l g H.size N σ k1 hd2) kw_X9_27 ⟨rfl, rfl⟩ ⟨Nat.le_of_ble_eq_true rfl, Nat.le_of_ble_eq_true rfl⟩ kv_X9_playOne rfl rfl rfl hl.1 (Nat.le_of_ble_eq_true rfl) ⟨Nat.zero_le _, Nat.zero_le _⟩ dX9_play_26 hP hS rfl (fun H locs hP hS => ?_)
      refine lv_istore (lv' := [(5, .int r2), (0, .ref (g.2.2 30)), (1, .ref (g.2.2 (4 + k1))), (2, .int x2), (4, .int x4)]) C.1 C.2.1 dX9_play_29 hl (by decide) rfl (fun ls hl => ?_)
      refine lv_aload_n C.1 C.2.1 dX9_play_31 rfl (lv_at hl 1 rfl) ?_
      refine lv_dup C.1 C.2.1 dX9_play_32 rfl ?_
      refine gf_X9_21_30 C hP dX9_play_33 ?_
      refine lv_iload C.1 C.2.1 dX9_play_36 (lv_at hl 0 rfl) ?_
      refine lv_iadd C.1 C.2.1 dX9_play_38 ?_
      refine pf_X9_21_30 C hP hS dX9_play_39 (fun H locs hP hS => ?_)
      refine lv_iload C.1 C.2.1 dX9_play_42 (lv_at hl 0 rfl) ?_
      refine lv_iconst (v := (3 : Int32)) C.1 C.2.1 dX9_play_44 (by decide) ?_
      refine lv_icmp_gt (tgt := 58) C.1 C.2.1 dX9_play_45 (by decide) (fun c3 => ?_) (fun c3 => ?_)
      · have hD := b_t c3 hD
        refine lv_iinc (v := x4 + (1 : Int32)) (lv' := [(4, .int (x4 + (1 : Int32))), (5, .int r2), (0, .ref (g.2.2 30)), (1, .ref (g.2.2 (4 + k1))), (2, .int x2)]) C.1 C.2.1 dX9_play_58 hl (k := 4) rfl rfl (by decide) rfl (fun ls hl => ?_)
        refine lv_goto (tgt := 18) C.1 C.2.1 dX9_play_61 (by decide) ?_
        exact ih (x4 + (1 : Int32)) (pt s2 30 2 ((s2 30 2) + r2)) H locs ls (lv_sub hl [2, 3, 4, 0] rfl) hP hS hD
      · have hD := b_f c3 hD
        refine lv_aload_n C.1 C.2.1 dX9_play_48 rfl (lv_at hl 1 rfl) ?_
        refine lv_dup C.1 C.2.1 dX9_play_49 rfl ?_
        refine gf_X9_24_30 C hP dX9_play_50 ?_
        refine w_rd (show (pt s2 30 2 ((s2 30 2) + r2)) 30 3 = s2 30 3 from rfl) ?_
        refine lv_iconst (v := (1 : Int32)) C.1 C.2.1 dX9_play_53 (by decide) ?_
        refine lv_iadd C.1 C.2.1 dX9_play_54 ?_
        refine pf_X9_24_30 C hP hS dX9_play_55 (fun H locs hP hS => ?_)
        refine lv_iinc (v := x4 + (1 : Int32)) (lv' := [(4, .int (x4 + (1 : Int32))), (5, .int r2), (0, .ref (g.2.2 30)), (1, .ref (g.2.2 (4 + k1))), (2, .int x2)]) C.1 C.2.1 dX9_play_58 hl (k := 4) rfl rfl (by decide) rfl (fun ls hl => ?_)
        refine lv_goto (tgt := 18) C.1 C.2.1 dX9_play_61 (by decide) ?_
        exact ih (x4 + (1 : Int32)) (pt (pt s2 30 2 ((s2 30 2) + r2)) 30 3 ((s2 30 3) + (1 : Int32))) H locs ls (lv_sub hl [2, 3, 4, 0] rfl) hP hS hD
set_option maxHeartbeats 4000000 in
set_option maxRecDepth 100000 in
theorem c_X9_play (l : Launch) (g : Gx) (sz : Nat) (N : Nat) (σ : St) (k1 : Nat) (x2 : Int32) (x3 : Int32) {u : St} (hD : D_X9_play N σ k1 x2 x3 = some u) : Met l yX9_play (Cond.code yX9_play cX9_play 6 (none) :: tb) rm_X9_play (PcX g [.ref (g.2.2 30), .ref (g.2.2 (4 + k1)), .int x2, .int x3] σ sz) (QvX g (AX g sz) u) 0 0 (AX g sz) := by
  refine Met.ofW (cc := cX9_play) (maxL := 6) (ret := none) (by decide) rfl ?_
  intro p e s m args below meth c s₁ B hml hv
  have hv0 := hv
  obtain ⟨rfl, hsz, hP, -⟩ := hv
  subst hsz
  have C : CX g (AX g s.heap.size) p s m _ meth c cX9_play 6 RX9 := CX.of B hml (fun w h => List.mem_cons_of_mem _ h) rfl hv0
  have hr := B.returns
  have hS : va_S (AX g s.heap.size) s.heap s.heap [] := va_S.rf
  have hl := lv_entry ([.ref (g.2.2 30), .ref (g.2.2 (4 + k1)), .int x2, .int x3]) (n := 6) (Nat.le_of_ble_eq_true rfl)
  rw [lg_entry_eq]
  generalize (lg_sl ([.ref (g.2.2 30), .ref (g.2.2 (4 + k1)), .int x2, .int x3]) ++ List.replicate (6 - (lg_sl ([.ref (g.2.2 30), .ref (g.2.2 (4 + k1)), .int x2, .int x3])).length) Slot.unset).toArray = ls at hl ⊢
  have hl : lv_has ls 6 [(0, .ref (g.2.2 30)), (1, .ref (g.2.2 (4 + k1))), (2, .int x2), (3, .int x3)] := hl
  obtain ⟨H, hH⟩ : ∃ H, H = s.heap := ⟨_, rfl⟩
  have hP : va_P g.1 vwCl (wX g σ) H := by rw [hH]; exact hP
  have hS : va_S (AX g s.heap.size) s.heap H [] := by rw [hH]; exact hS
  refine wH hH ?_
  obtain ⟨locs, hlo⟩ : ∃ locs : List Loc, locs = [] := ⟨_, rfl⟩
  rw [← hlo] at hS
  refine wL hlo ?_
  unfold D_X9_play at hD
  refine lv_aload_n C.1 C.2.1 dX9_play_0 rfl (lv_at hl 0 rfl) ?_
  refine lv_iload_n C.1 C.2.1 dX9_play_1 rfl (lv_at hl 3 rfl) ?_
  refine pf_X9_17_30 C hP hS dX9_play_2 (fun H locs hP hS => ?_)
  refine lv_aload_n C.1 C.2.1 dX9_play_5 rfl (lv_at hl 0 rfl) ?_
  refine lv_iconst (v := (0 : Int32)) C.1 C.2.1 dX9_play_6 (by decide) ?_
  refine pf_X9_21_30 C hP hS dX9_play_7 (fun H locs hP hS => ?_)
  refine lv_aload_n C.1 C.2.1 dX9_play_10 rfl (lv_at hl 0 rfl) ?_
  refine lv_iconst (v := (0 : Int32)) C.1 C.2.1 dX9_play_11 (by decide) ?_
  refine pf_X9_24_30 C hP hS dX9_play_12 (fun H locs hP hS => ?_)
  refine lv_iconst (v := (0 : Int32)) C.1 C.2.1 dX9_play_15 (by decide) ?_
  refine lv_istore (lv' := [(4, .int (0 : Int32)), (0, .ref (g.2.2 30)), (1, .ref (g.2.2 (4 + k1))), (2, .int x2), (3, .int x3)]) C.1 C.2.1 dX9_play_16 hl (by decide) rfl (fun ls hl => ?_)
  exact w_L_X9_play_18 C hr N k1 x2 N (0 : Int32) (pt (pt (pt σ 30 4 x3) 30 2 (0 : Int32)) 30 3 (0 : Int32)) H locs ls (lv_sub hl [1, 2, 3, 0] rfl) hP hS hD
abbrev rm_X11_tries : Room := { frames := 6, cells := 0, slots := 0, locals := 140 }
set_option maxHeartbeats 4000000 in
set_option maxRecDepth 100000 in
theorem c_X11_tries (l : Launch) (g : Gx) (sz : Nat) (N : Nat) (σ : St) (x1 : Int32) (x2 : Int32) (x3 : Int32) (x4 : Int32) {r : Int32} {u : St} (hD : D_X11_tries N σ x1 x2 x3 x4 = some (r, u)) : Met l yX11_tries (Cond.code yX11_tries cX11_tries 5 (some .int) :: tb) rm_X11_tries (PcX g [.ref (g.2.2 0), .int x1, .int x2, .int x3, .int x4] σ sz) (QiX g (AX g sz) r u) 0 0 (AX g sz) := by
  refine Met.ofW (cc := cX11_tries) (maxL := 5) (ret := some .int) (by decide) rfl ?_
  intro p e s m args below meth c s₁ B hml hv
  have hv0 := hv
  obtain ⟨rfl, hsz, hP, -⟩ := hv
  subst hsz
  have C : CX g (AX g s.heap.size) p s m _ meth c cX11_tries 5 RX11 := CX.of B hml (fun w h => List.mem_cons_of_mem _ h) rfl hv0
  have hr := B.returns
  have hS : va_S (AX g s.heap.size) s.heap s.heap [] := va_S.rf
  have hl := lv_entry ([.ref (g.2.2 0), .int x1, .int x2, .int x3, .int x4]) (n := 5) (Nat.le_of_ble_eq_true rfl)
  rw [lg_entry_eq]
  generalize (lg_sl ([.ref (g.2.2 0), .int x1, .int x2, .int x3, .int x4]) ++ List.replicate (5 - (lg_sl ([.ref (g.2.2 0), .int x1, .int x2, .int x3, .int x4])).length) Slot.unset).toArray = ls at hl ⊢
  have hl : lv_has ls 5 [(0, .ref (g.2.2 0)), (1, .int x1), (2, .int x2), (3, .int x3), (4, .int x4)] := hl
  obtain ⟨H, hH⟩ : ∃ H, H = s.heap := ⟨_, rfl⟩
  have hP : va_P g.1 vwCl (wX g σ) H := by rw [hH]; exact hP
  have hS : va_S (AX g s.heap.size) s.heap H [] := by rw [hH]; exact hS
  refine wH hH ?_
  obtain ⟨locs, hlo⟩ : ∃ locs : List Loc, locs = [] := ⟨_, rfl⟩
  rw [← hlo] at hS
  refine wL hlo ?_
  unfold D_X11_tries at hD
  refine lv_aload_n C.1 C.2.1 dX11_tries_0 rfl (lv_at hl 0 rfl) ?_
  refine lv_iload_n C.1 C.2.1 dX11_tries_1 rfl (lv_at hl 1 rfl) ?_
  obtain ⟨r1, hd1, hD⟩ := bp_some hD
  refine kVi_X (As := [.int x1]) (rest := []) (ci := 11) (q0 := 0) C (c_X11_isJudge l g H.size σ x1 hd1) kw_X11_134 ⟨rfl, rfl⟩ ⟨Nat.le_of_ble_eq_true rfl, Nat.le_of_ble_eq_true rfl⟩ kv_X11_isJudge rfl rfl rfl hl.1 (Nat.le_of_ble_eq_true rfl) ⟨Nat.zero_le _, Nat.zero_le _⟩ dX11_tries_2 hP hS rfl (fun H locs hP hS => ?_)
  refine lv_if_ne (tgt := 11) C.1 C.2.1 dX11_tries_5 (by decide) (fun c2 => ?_) (fun c2 => ?_)
  · have hD := b_f c2 hD
    refine lv_iload_n C.1 C.2.1 dX11_tries_11 rfl (lv_at hl 2 rfl) ?_
    refine lv_iconst (v := (1 : Int32)) C.1 C.2.1 dX11_tries_12 (by decide) ?_
    refine lv_icmp_lt (tgt := 37) C.1 C.2.1 dX11_tries_13 (by decide) (fun c3 => ?_) (fun c3 => ?_)
    · have hD := b_t c3 hD
      refine lv_bipush (v := (-102 : Int32)) C.1 C.2.1 dX11_tries_37 (by decide) ?_
      cases hD
      exact ri_X C hr hP hS dX11_tries_39
    · have hD := b_f c3 hD
      refine lv_iload_n C.1 C.2.1 dX11_tries_16 rfl (lv_at hl 2 rfl) ?_
      refine lv_bipush (v := (20 : Int32)) C.1 C.2.1 dX11_tries_17 (by decide) ?_
      refine lv_icmp_gt (tgt := 37) C.1 C.2.1 dX11_tries_19 (by decide) (fun c4 => ?_) (fun c4 => ?_)
      · have hD := b_t c4 hD
        refine lv_bipush (v := (-102 : Int32)) C.1 C.2.1 dX11_tries_37 (by decide) ?_
        cases hD
        exact ri_X C hr hP hS dX11_tries_39
      · have hD := b_f c4 hD
        refine lv_iload_n C.1 C.2.1 dX11_tries_22 rfl (lv_at hl 3 rfl) ?_
        refine lv_if_lt (tgt := 37) C.1 C.2.1 dX11_tries_23 (by decide) (fun c5 => ?_) (fun c5 => ?_)
        · have hD := b_t c5 hD
          refine lv_bipush (v := (-102 : Int32)) C.1 C.2.1 dX11_tries_37 (by decide) ?_
          cases hD
          exact ri_X C hr hP hS dX11_tries_39
        · have hD := b_f c5 hD
          refine lv_iload C.1 C.2.1 dX11_tries_26 (lv_at hl 4 rfl) ?_
          refine lv_if_lt (tgt := 37) C.1 C.2.1 dX11_tries_28 (by decide) (fun c6 => ?_) (fun c6 => ?_)
          · have hD := b_t c6 hD
            refine lv_bipush (v := (-102 : Int32)) C.1 C.2.1 dX11_tries_37 (by decide) ?_
            cases hD
            exact ri_X C hr hP hS dX11_tries_39
          · have hD := b_f c6 hD
            refine lv_iload C.1 C.2.1 dX11_tries_31 (lv_at hl 4 rfl) ?_
            refine lv_iconst (v := (2 : Int32)) C.1 C.2.1 dX11_tries_33 (by decide) ?_
            refine lv_icmp_le (tgt := 40) C.1 C.2.1 dX11_tries_34 (by decide) (fun c7 => ?_) (fun c7 => ?_)
            · have hD := b_t c7 hD
              refine lv_aload_n C.1 C.2.1 dX11_tries_40 rfl (lv_at hl 0 rfl) ?_
              refine gf_X11_77_0 C hP dX11_tries_41 ?_
              refine lv_aload_n C.1 C.2.1 dX11_tries_44 rfl (lv_at hl 0 rfl) ?_
              refine lv_iload_n C.1 C.2.1 dX11_tries_45 rfl (lv_at hl 1 rfl) ?_
              obtain ⟨r8, hd8, hD⟩ := bp_some hD
              refine kVr_X (As := [.int x1]) (rest := [.ref (g.2.2 30)]) (ci := 11) (q0 := 0) C (c_X11_judgeAt l g H.size σ x1 hd8) kw_X11_147 ⟨rfl, rfl⟩ ⟨Nat.le_of_ble_eq_true rfl, Nat.le_of_ble_eq_true rfl⟩ kv_X11_judgeAt rfl rfl rfl hl.1 (Nat.le_of_ble_eq_true rfl) ⟨Nat.zero_le _, Nat.zero_le _⟩ dX11_tries_46 hP hS rfl (fun H locs hP hS => ?_)
              refine lv_iload_n C.1 C.2.1 dX11_tries_49 rfl (lv_at hl 2 rfl) ?_
              refine lv_iload_n C.1 C.2.1 dX11_tries_50 rfl (lv_at hl 3 rfl) ?_
              obtain ⟨s9, hd9, hD⟩ := bp_some hD
              refine kVv_X (As := [.ref (g.2.2 (4 + r8)), .int x2, .int x3]) (rest := []) (ci := 9) (q0 := 30) C (c_X9_play l g H.size N σ r8 x2 x3 hd9) kw_X11_247 ⟨rfl, rfl⟩ ⟨Nat.le_of_ble_eq_true rfl, Nat.le_of_ble_eq_true rfl⟩ kv_X9_play rfl rfl rfl hl.1 (Nat.le_of_ble_eq_true rfl) ⟨Nat.zero_le _, Nat.zero_le _⟩ dX11_tries_51 hP hS rfl (fun H locs hP hS => ?_)
              refine lv_iload C.1 C.2.1 dX11_tries_54 (lv_at hl 4 rfl) ?_
              refine lv_if_ne (tgt := 67) C.1 C.2.1 dX11_tries_56 (by decide) (fun c10 => ?_) (fun c10 => ?_)
              · have hD := b_f c10 hD
                refine lv_iload C.1 C.2.1 dX11_tries_67 (lv_at hl 4 rfl) ?_
                refine lv_iconst (v := (1 : Int32)) C.1 C.2.1 dX11_tries_69 (by decide) ?_
                refine lv_icmp_ne (tgt := 83) C.1 C.2.1 dX11_tries_70 (by decide) (fun c11 => ?_) (fun c11 => ?_)
                · have hD := b_f c11 hD
                  refine lv_aload_n C.1 C.2.1 dX11_tries_83 rfl (lv_at hl 0 rfl) ?_
                  refine gf_X11_77_0 C hP dX11_tries_84 ?_
                  refine gf_X11_256_30 C hP dX11_tries_87 ?_
                  cases hD
                  exact ri_X C hr hP hS dX11_tries_90
                · have hD := b_t c11 hD
                  refine lv_aload_n C.1 C.2.1 dX11_tries_73 rfl (lv_at hl 0 rfl) ?_
                  refine gf_X11_77_0 C hP dX11_tries_74 ?_
                  refine gf_X11_253_30 C hP dX11_tries_77 ?_
                  refine lv_goto (tgt := 90) C.1 C.2.1 dX11_tries_80 (by decide) ?_
                  cases hD
                  exact ri_X C hr hP hS dX11_tries_90
              · have hD := b_t c10 hD
                refine lv_aload_n C.1 C.2.1 dX11_tries_59 rfl (lv_at hl 0 rfl) ?_
                refine gf_X11_77_0 C hP dX11_tries_60 ?_
                refine gf_X11_250_30 C hP dX11_tries_63 ?_
                cases hD
                exact ri_X C hr hP hS dX11_tries_66
            · have hD := b_f c7 hD
              refine lv_bipush (v := (-102 : Int32)) C.1 C.2.1 dX11_tries_37 (by decide) ?_
              cases hD
              exact ri_X C hr hP hS dX11_tries_39
  · have hD := b_t c2 hD
    refine lv_bipush (v := (-101 : Int32)) C.1 C.2.1 dX11_tries_8 (by decide) ?_
    cases hD
    exact ri_X C hr hP hS dX11_tries_10
end WLK
