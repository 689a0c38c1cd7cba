section WLK
variable {p : Program} {l : Launch} {e : Env} {s : State} {m : MethodId} {args : Array Value} {below : List Frame} {meth : Method} {c : Code} {g : Gx} {A : Nat → Prop}
abbrev rm_X11_sorts : Room := { frames := 4, cells := 0, slots := 0, locals := 88 }
set_option maxHeartbeats 4000000 in
set_option maxRecDepth 100000 in
theorem w_L_X11_sorts_4 (C : CX g A p s m args meth c cX11_sorts 4 RX11) (hr : meth.sig.returnType = some .int) (N : Nat) (σ : St) {r : Int32} (x1 : Int32) : ∀ (n : Nat) (x2 : Int32) (x3 : Int32) (H : Heap) (locs : List Loc) (ls : Array Slot), lv_has ls 4 [(0, .ref (g.2.2 0)), (1, .int x1), (2, .int x2), (3, .int x3)] → va_P g.1 vwCl (wX g σ) H → va_S A s.heap H locs → L_X11_sorts_4 N σ x1 n x2 x3 = some r → W p l e rm_X11_sorts s m args below meth c H locs 0 0 (MQ below (QiX g A r σ) args s 0 0 A) (F0 m 4 ls []) := by
  intro n
  induction n with
  | zero =>
    intro x2 x3 H locs ls hl hP hS hD
    rw [L_X11_sorts_4] at hD
    cases hD
  | succ n ih =>
    intro x2 x3 H locs ls hl hP hS hD
    rw [L_X11_sorts_4] at hD
    refine lv_iload_n C.1 C.2.1 dX11_sorts_4 rfl (lv_at hl 3 rfl) ?_
    refine lv_iconst (v := (5 : Int32)) C.1 C.2.1 dX11_sorts_5 (by decide) ?_
    refine lv_icmp_ge (tgt := 35) C.1 C.2.1 dX11_sorts_6 (by decide) (fun c1 => ?_) (fun c1 => ?_)
    · have hD := b_t c1 hD
      refine lv_iload_n C.1 C.2.1 dX11_sorts_35 rfl (lv_at hl 2 rfl) ?_
      cases hD
      exact ri_X C hr hP hS dX11_sorts_36
    · have hD := b_f c1 hD
      refine lv_aload_n C.1 C.2.1 dX11_sorts_9 rfl (lv_at hl 0 rfl) ?_
      refine lv_iload_n C.1 C.2.1 dX11_sorts_10 rfl (lv_at hl 1 rfl) ?_
      refine lv_aload_n C.1 C.2.1 dX11_sorts_11 rfl (lv_at hl 0 rfl) ?_
      refine gf_X11_31_0 C hP dX11_sorts_12 ?_
      refine lv_iload_n C.1 C.2.1 dX11_sorts_15 rfl (lv_at hl 3 rfl) ?_
      obtain ⟨hi2, hD⟩ := gi_some hD
      refine aj_X C hP hi2 dX11_sorts_16 ?_
      obtain ⟨r3, hd3, hD⟩ := bp_some hD
      refine kVi_X (As := [.int x1, .ref (g.2.2 (4 + x3.toNatClampNeg))]) (rest := []) (ci := 11) (q0 := 0) C (c_X11_couldBe l g H.size N σ x1 x3.toNatClampNeg hd3) kw_X11_295 ⟨rfl, rfl⟩ ⟨Nat.le_of_ble_eq_true rfl, Nat.le_of_ble_eq_true rfl⟩ kv_X11_couldBe rfl rfl rfl hl.1 (Nat.le_of_ble_eq_true rfl) ⟨Nat.zero_le _, Nat.zero_le _⟩ dX11_sorts_17 hP hS rfl (fun H locs hP hS => ?_)
      refine lv_if_eq (tgt := 29) C.1 C.2.1 dX11_sorts_20 (by decide) (fun c4 => ?_) (fun c4 => ?_)
      · have hD := b_t c4 hD
        refine lv_iinc (v := x3 + (1 : Int32)) (lv' := [(3, .int (x3 + (1 : Int32))), (0, .ref (g.2.2 0)), (1, .int x1), (2, .int x2)]) C.1 C.2.1 dX11_sorts_29 hl (k := 3) rfl rfl (by decide) rfl (fun ls hl => ?_)
        refine lv_goto (tgt := 4) C.1 C.2.1 dX11_sorts_32 (by decide) ?_
        exact ih x2 (x3 + (1 : Int32)) H locs ls (lv_sub hl [1, 2, 3, 0] rfl) hP hS hD
      · have hD := b_f c4 hD
        refine lv_iload_n C.1 C.2.1 dX11_sorts_23 rfl (lv_at hl 2 rfl) ?_
        refine lv_iconst (v := (1 : Int32)) C.1 C.2.1 dX11_sorts_24 (by decide) ?_
        refine lv_iload_n C.1 C.2.1 dX11_sorts_25 rfl (lv_at hl 3 rfl) ?_
        refine lv_ishl C.1 C.2.1 dX11_sorts_26 ?_
        refine lv_ior C.1 C.2.1 dX11_sorts_27 ?_
        refine lv_istore_n (lv' := [(2, .int (x2 ||| ((1 : Int32) <<< (x3 &&& 31)))), (0, .ref (g.2.2 0)), (1, .int x1), (3, .int x3)]) C.1 C.2.1 dX11_sorts_28 rfl hl (by decide) rfl (fun ls hl => ?_)
        refine lv_iinc (v := x3 + (1 : Int32)) (lv' := [(3, .int (x3 + (1 : Int32))), (2, .int (x2 ||| ((1 : Int32) <<< (x3 &&& 31)))), (0, .ref (g.2.2 0)), (1, .int x1)]) C.1 C.2.1 dX11_sorts_29 hl (k := 3) rfl rfl (by decide) rfl (fun ls hl => ?_)
        refine lv_goto (tgt := 4) C.1 C.2.1 dX11_sorts_32 (by decide) ?_
        exact ih (x2 ||| ((1 : Int32) <<< (x3 &&& 31))) (x3 + (1 : Int32)) H locs ls (lv_sub hl [2, 3, 1, 0] rfl) hP hS hD
set_option maxHeartbeats 4000000 in
set_option maxRecDepth 100000 in
theorem c_X11_sorts (l : Launch) (g : Gx) (sz : Nat) (N : Nat) (σ : St) (x1 : Int32) {r : Int32} (hD : D_X11_sorts N σ x1 = some r) : Met l yX11_sorts (Cond.code yX11_sorts cX11_sorts 4 (some .int) :: tb) rm_X11_sorts (PcX g [.ref (g.2.2 0), .int x1] σ sz) (QiX g (AX g sz) r σ) 0 0 (AX g sz) := by
  refine Met.ofW (cc := cX11_sorts) (maxL := 4) (ret := some .int) (by decide) rfl ?_
  intro p e s m args below meth c s₁ B hml hv
  have hv0 := hv
  obtain ⟨rfl, hsz, hP, -⟩ := hv
  subst hsz
  have C : CX g (AX g s.heap.size) p s m _ meth c cX11_sorts 4 RX11 := CX.of B hml (fun w h => List.mem_cons_of_mem _ h) rfl hv0
  have hr := B.returns
  have hS : va_S (AX g s.heap.size) s.heap s.heap [] := va_S.rf
  have hl := lv_entry ([.ref (g.2.2 0), .int x1]) (n := 4) (Nat.le_of_ble_eq_true rfl)
  rw [lg_entry_eq]
  generalize (lg_sl ([.ref (g.2.2 0), .int x1]) ++ List.replicate (4 - (lg_sl ([.ref (g.2.2 0), .int x1])).length) Slot.unset).toArray = ls at hl ⊢
  have hl : lv_has ls 4 [(0, .ref (g.2.2 0)), (1, .int x1)] := hl
  obtain ⟨H, hH⟩ : ∃ H, H = s.heap := ⟨_, rfl⟩
  have hP : va_P g.1 vwCl (wX g σ) H := by rw [hH]; exact hP
  have hS : va_S (AX g s.heap.size) s.heap H [] := by rw [hH]; exact hS
  refine wH hH ?_
  obtain ⟨locs, hlo⟩ : ∃ locs : List Loc, locs = [] := ⟨_, rfl⟩
  rw [← hlo] at hS
  refine wL hlo ?_
  unfold D_X11_sorts at hD
  refine lv_iconst (v := (0 : Int32)) C.1 C.2.1 dX11_sorts_0 (by decide) ?_
  refine lv_istore_n (lv' := [(2, .int (0 : Int32)), (0, .ref (g.2.2 0)), (1, .int x1)]) C.1 C.2.1 dX11_sorts_1 rfl hl (by decide) rfl (fun ls hl => ?_)
  refine lv_iconst (v := (0 : Int32)) C.1 C.2.1 dX11_sorts_2 (by decide) ?_
  refine lv_istore_n (lv' := [(3, .int (0 : Int32)), (2, .int (0 : Int32)), (0, .ref (g.2.2 0)), (1, .int x1)]) C.1 C.2.1 dX11_sorts_3 rfl hl (by decide) rfl (fun ls hl => ?_)
  exact w_L_X11_sorts_4 C hr N σ x1 N (0 : Int32) (0 : Int32) H locs ls (lv_sub hl [2, 3, 1, 0] rfl) hP hS hD
abbrev rm_X11_worstSorts : Room := { frames := 3, cells := 0, slots := 0, locals := 65 }
set_option maxHeartbeats 4000000 in
set_option maxRecDepth 100000 in
theorem w_J_X11_worstSorts_118 (C : CX g A p s m args meth c cX11_worstSorts 7 RX11) (hr : meth.sig.returnType = some .int) (N : Nat) {r : Int32} {u : St} (kc63 : Int32 → Int32 → St → Option (Int32 × St)) (x3 : Int32) (x4 : Int32) (x5 : Int32) (hk63 : ∀ (x3 : Int32) (x4 : Int32) (σ : St) (H : Heap) (locs : List Loc) (ls : Array Slot), lv_has ls 7 [(0, .ref (g.2.2 0)), (3, .int x3), (4, .int x4)] → va_P g.1 vwCl (wX g σ) H → va_S A s.heap H locs → kc63 x3 x4 σ = some (r, u) → W p l e rm_X11_worstSorts s m args below meth c H locs 0 0 (MQ below (QiX g A r u) args s 0 0 A) (F0 m 63 ls [])) : ∀ (σ : St) (H : Heap) (locs : List Loc) (ls : Array Slot), lv_has ls 7 [(0, .ref (g.2.2 0)), (3, .int x3), (4, .int x4), (5, .int x5)] → va_P g.1 vwCl (wX g σ) H → va_S A s.heap H locs → J_X11_worstSorts_118 N kc63 x3 x4 x5 σ = some (r, u) → W p l e rm_X11_worstSorts s m args below meth c H locs 0 0 (MQ below (QiX g A r u) args s 0 0 A) (F0 m 118 ls []) := by
  intro σ H locs ls hl hP hS hD
  unfold J_X11_worstSorts_118 at hD
  refine lv_iload_n C.1 C.2.1 dX11_worstSorts_118 rfl (lv_at hl 1 rfl) ?_
  refine lv_iload C.1 C.2.1 dX11_worstSorts_119 (lv_at hl 3 rfl) ?_
  refine mx_X C kw_X11_222 hl.1 (Nat.le_of_ble_eq_true rfl) (Nat.le_of_ble_eq_true rfl) ⟨Nat.zero_le _, Nat.zero_le _⟩ dX11_worstSorts_121 ?_
  refine lv_istore_n (lv' := [(3, .int (if x3 < x5 then x5 else x3)), (0, .ref (g.2.2 0)), (4, .int x4), (5, .int x5)]) C.1 C.2.1 dX11_worstSorts_124 rfl hl (by decide) rfl (fun ls hl => ?_)
  refine lv_iinc (v := x4 + (1 : Int32)) (lv' := [(4, .int (x4 + (1 : Int32))), (3, .int (if x3 < x5 then x5 else x3)), (0, .ref (g.2.2 0)), (5, .int x5)]) C.1 C.2.1 dX11_worstSorts_125 hl (k := 2) rfl rfl (by decide) rfl (fun ls hl => ?_)
  refine lv_goto (tgt := 63) C.1 C.2.1 dX11_worstSorts_128 (by decide) ?_
  exact hk63 (if x3 < x5 then x5 else x3) (x4 + (1 : Int32)) σ H locs ls (lv_sub hl [2, 1, 0] rfl) hP hS hD
set_option maxHeartbeats 4000000 in
set_option maxRecDepth 100000 in
theorem w_L_X11_worstSorts_75 (C : CX g A p s m args meth c cX11_worstSorts 7 RX11) (hr : meth.sig.returnType = some .int) (N : Nat) {r : Int32} {u : St} (kc63 : Int32 → Int32 → St → Option (Int32 × St)) (x3 : Int32) (x4 : Int32) (hk63 : ∀ (x3 : Int32) (x4 : Int32) (σ : St) (H : Heap) (locs : List Loc) (ls : Array Slot), lv_has ls 7 [(0, .ref (g.2.2 0)), (3, .int x3), (4, .int x4)] → va_P g.1 vwCl (wX g σ) H → va_S A s.heap H locs → kc63 x3 x4 σ = some (r, u) → W p l e rm_X11_worstSorts s m args below meth c H locs 0 0 (MQ below (QiX g A r u) args s 0 0 A) (F0 m 63 ls [])) : ∀ (n : Nat) (x5 : Int32) (x6 : Int32) (σ : St) (H : Heap) (locs : List Loc) (ls : Array Slot), lv_has ls 7 [(0, .ref (g.2.2 0)), (3, .int x3), (4, .int x4), (5, .int x5), (6, .int x6)] → va_P g.1 vwCl (wX g σ) H → va_S A s.heap H locs → L_X11_worstSorts_75 N kc63 x3 x4 n x5 x6 σ = some (r, u) → W p l e rm_X11_worstSorts s m args below meth c H locs 0 0 (MQ below (QiX g A r u) args s 0 0 A) (F0 m 75 ls []) := by
  intro n
  induction n with
  | zero =>
    intro x5 x6 σ H locs ls hl hP hS hD
    rw [L_X11_worstSorts_75] at hD
    cases hD
  | succ n ih =>
    intro x5 x6 σ H locs ls hl hP hS hD
    rw [L_X11_worstSorts_75] at hD
    refine lv_iload C.1 C.2.1 dX11_worstSorts_75 (lv_at hl 4 rfl) ?_
    refine lv_iconst (v := (5 : Int32)) C.1 C.2.1 dX11_worstSorts_77 (by decide) ?_
    refine lv_icmp_ge (tgt := 118) C.1 C.2.1 dX11_worstSorts_78 (by decide) (fun c3 => ?_) (fun c3 => ?_)
    · have hD := b_t c3 hD
      exact w_J_X11_worstSorts_118 C hr N kc63 x3 x4 x5 hk63 σ H locs ls (lv_sub hl [0, 1, 2, 3] rfl) hP hS hD
    · have hD := b_f c3 hD
      refine lv_aload_n C.1 C.2.1 dX11_worstSorts_81 rfl (lv_at hl 0 rfl) ?_
      refine gf_X11_35_0 C hP dX11_worstSorts_82 ?_
      refine lv_iload C.1 C.2.1 dX11_worstSorts_85 (lv_at hl 2 rfl) ?_
      obtain ⟨hi5, hD⟩ := gi_some hD
      refine iaX C hP 9 rfl hi5 dX11_worstSorts_87 ?_
      refine lv_iconst (v := (-1 : Int32)) C.1 C.2.1 dX11_worstSorts_88 (by decide) ?_
      refine lv_icmp_eq (tgt := 118) C.1 C.2.1 dX11_worstSorts_89 (by decide) (fun c6 => ?_) (fun c6 => ?_)
      · have hD := b_t c6 hD
        exact w_J_X11_worstSorts_118 C hr N kc63 x3 x4 x5 hk63 σ H locs ls (lv_sub hl [0, 1, 2, 3] rfl) hP hS hD
      · have hD := b_f c6 hD
        refine lv_aload_n C.1 C.2.1 dX11_worstSorts_92 rfl (lv_at hl 0 rfl) ?_
        refine gf_X11_35_0 C hP dX11_worstSorts_93 ?_
        refine lv_iload C.1 C.2.1 dX11_worstSorts_96 (lv_at hl 4 rfl) ?_
        obtain ⟨hi7, hD⟩ := gi_some hD
        refine iaX C hP 9 rfl hi7 dX11_worstSorts_98 ?_
        refine lv_aload_n C.1 C.2.1 dX11_worstSorts_99 rfl (lv_at hl 0 rfl) ?_
        refine gf_X11_35_0 C hP dX11_worstSorts_100 ?_
        refine lv_iload C.1 C.2.1 dX11_worstSorts_103 (lv_at hl 2 rfl) ?_
        obtain ⟨hi8, hD⟩ := gi_some hD
        refine iaX C hP 9 rfl hi8 dX11_worstSorts_105 ?_
        refine lv_icmp_ne (tgt := 112) C.1 C.2.1 dX11_worstSorts_106 (by decide) (fun c9 => ?_) (fun c9 => ?_)
        · have hD := b_f c9 hD
          refine lv_iinc (v := x6 + (1 : Int32)) (lv' := [(6, .int (x6 + (1 : Int32))), (0, .ref (g.2.2 0)), (3, .int x3), (4, .int x4), (5, .int x5)]) C.1 C.2.1 dX11_worstSorts_112 hl (k := 4) rfl rfl (by decide) rfl (fun ls hl => ?_)
          refine lv_goto (tgt := 75) C.1 C.2.1 dX11_worstSorts_115 (by decide) ?_
          exact ih x5 (x6 + (1 : Int32)) σ H locs ls (lv_sub hl [1, 2, 3, 4, 0] rfl) hP hS hD
        · have hD := b_t c9 hD
          refine lv_iinc (v := x5 + (1 : Int32)) (lv' := [(5, .int (x5 + (1 : Int32))), (0, .ref (g.2.2 0)), (3, .int x3), (4, .int x4), (6, .int x6)]) C.1 C.2.1 dX11_worstSorts_109 hl (k := 3) rfl rfl (by decide) rfl (fun ls hl => ?_)
          refine lv_iinc (v := x6 + (1 : Int32)) (lv' := [(6, .int (x6 + (1 : Int32))), (5, .int (x5 + (1 : Int32))), (0, .ref (g.2.2 0)), (3, .int x3), (4, .int x4)]) C.1 C.2.1 dX11_worstSorts_112 hl (k := 4) rfl rfl (by decide) rfl (fun ls hl => ?_)
          refine lv_goto (tgt := 75) C.1 C.2.1 dX11_worstSorts_115 (by decide) ?_
          exact ih (x5 + (1 : Int32)) (x6 + (1 : Int32)) σ H locs ls (lv_sub hl [2, 3, 4, 1, 0] rfl) hP hS hD
set_option maxHeartbeats 4000000 in
set_option maxRecDepth 100000 in
theorem w_L_X11_worstSorts_63 (C : CX g A p s m args meth c cX11_worstSorts 7 RX11) (hr : meth.sig.returnType = some .int) (N : Nat) {r : Int32} {u : St} : ∀ (n : Nat) (x3 : Int32) (x4 : Int32) (σ : St) (H : Heap) (locs : List Loc) (ls : Array Slot), lv_has ls 7 [(0, .ref (g.2.2 0)), (3, .int x3), (4, .int x4)] → va_P g.1 vwCl (wX g σ) H → va_S A s.heap H locs → L_X11_worstSorts_63 N n x3 x4 σ = some (r, u) → W p l e rm_X11_worstSorts s m args below meth c H locs 0 0 (MQ below (QiX g A r u) args s 0 0 A) (F0 m 63 ls []) := by
  intro n
  induction n with
  | zero =>
    intro x3 x4 σ H locs ls hl hP hS hD
    rw [L_X11_worstSorts_63] at hD
    cases hD
  | succ n ih =>
    intro x3 x4 σ H locs ls hl hP hS hD
    rw [L_X11_worstSorts_63] at hD
    refine lv_iload C.1 C.2.1 dX11_worstSorts_63 (lv_at hl 2 rfl) ?_
    refine lv_iconst (v := (5 : Int32)) C.1 C.2.1 dX11_worstSorts_65 (by decide) ?_
    refine lv_icmp_ge (tgt := 131) C.1 C.2.1 dX11_worstSorts_66 (by decide) (fun c2 => ?_) (fun c2 => ?_)
    · have hD := b_t c2 hD
      refine lv_iload_n C.1 C.2.1 dX11_worstSorts_131 rfl (lv_at hl 1 rfl) ?_
      cases hD
      exact ri_X C hr hP hS dX11_worstSorts_132
    · have hD := b_f c2 hD
      refine lv_iconst (v := (0 : Int32)) C.1 C.2.1 dX11_worstSorts_69 (by decide) ?_
      refine lv_istore (lv' := [(5, .int (0 : Int32)), (0, .ref (g.2.2 0)), (3, .int x3), (4, .int x4)]) C.1 C.2.1 dX11_worstSorts_70 hl (by decide) rfl (fun ls hl => ?_)
      refine lv_iconst (v := (0 : Int32)) C.1 C.2.1 dX11_worstSorts_72 (by decide) ?_
      refine lv_istore (lv' := [(6, .int (0 : Int32)), (5, .int (0 : Int32)), (0, .ref (g.2.2 0)), (3, .int x3), (4, .int x4)]) C.1 C.2.1 dX11_worstSorts_73 hl (by decide) rfl (fun ls hl => ?_)
      exact w_L_X11_worstSorts_75 C hr N (L_X11_worstSorts_63 N n) x3 x4 ih N (0 : Int32) (0 : Int32) σ H locs ls (lv_sub hl [2, 3, 4, 1, 0] rfl) hP hS hD
set_option maxHeartbeats 4000000 in
set_option maxRecDepth 100000 in
theorem w_L_X11_worstSorts_5 (C : CX g A p s m args meth c cX11_worstSorts 7 RX11) (hr : meth.sig.returnType = some .int) (N : Nat) {r : Int32} {u : St} (x1 : Int32) (x2 : Int32) (x3 : Int32) : ∀ (n : Nat) (x4 : Int32) (σ : St) (H : Heap) (locs : List Loc) (ls : Array Slot), lv_has ls 7 [(0, .ref (g.2.2 0)), (1, .int x1), (2, .int x2), (3, .int x3), (4, .int x4)] → va_P g.1 vwCl (wX g σ) H → va_S A s.heap H locs → L_X11_worstSorts_5 N x1 x2 x3 n x4 σ = some (r, u) → W p l e rm_X11_worstSorts s m args below meth c H locs 0 0 (MQ below (QiX g A r u) args s 0 0 A) (F0 m 5 ls []) := by
  intro n
  induction n with
  | zero =>
    intro x4 σ H locs ls hl hP hS hD
    rw [L_X11_worstSorts_5] at hD
    cases hD
  | succ n ih =>
    intro x4 σ H locs ls hl hP hS hD
    rw [L_X11_worstSorts_5] at hD
    refine lv_iload C.1 C.2.1 dX11_worstSorts_5 (lv_at hl 4 rfl) ?_
    refine lv_iconst (v := (5 : Int32)) C.1 C.2.1 dX11_worstSorts_7 (by decide) ?_
    refine lv_icmp_ge (tgt := 60) C.1 C.2.1 dX11_worstSorts_8 (by decide) (fun c1 => ?_) (fun c1 => ?_)
    · have hD := b_t c1 hD
      refine lv_iconst (v := (0 : Int32)) C.1 C.2.1 dX11_worstSorts_60 (by decide) ?_
      refine lv_istore (lv' := [(4, .int (0 : Int32)), (0, .ref (g.2.2 0)), (1, .int x1), (2, .int x2), (3, .int x3)]) C.1 C.2.1 dX11_worstSorts_61 hl (by decide) rfl (fun ls hl => ?_)
      exact w_L_X11_worstSorts_63 C hr N N x3 (0 : Int32) σ H locs ls (lv_sub hl [1, 4, 0] rfl) hP hS hD
    · have hD := b_f c1 hD
      refine lv_aload_n C.1 C.2.1 dX11_worstSorts_11 rfl (lv_at hl 0 rfl) ?_
      refine gf_X11_35_0 C hP dX11_worstSorts_12 ?_
      refine lv_iload C.1 C.2.1 dX11_worstSorts_15 (lv_at hl 4 rfl) ?_
      refine lv_iload_n C.1 C.2.1 dX11_worstSorts_17 rfl (lv_at hl 1 rfl) ?_
      refine lv_iload C.1 C.2.1 dX11_worstSorts_18 (lv_at hl 4 rfl) ?_
      refine lv_ishr C.1 C.2.1 dX11_worstSorts_20 ?_
      refine lv_iconst (v := (1 : Int32)) C.1 C.2.1 dX11_worstSorts_21 (by decide) ?_
      refine lv_iand C.1 C.2.1 dX11_worstSorts_22 ?_
      refine lv_iconst (v := (1 : Int32)) C.1 C.2.1 dX11_worstSorts_23 (by decide) ?_
      refine lv_icmp_ne (tgt := 52) C.1 C.2.1 dX11_worstSorts_24 (by decide) (fun c10 => ?_) (fun c10 => ?_)
      · have hD := b_f c10 hD
        refine lv_iconst (v := (-1 : Int32)) C.1 C.2.1 dX11_worstSorts_52 (by decide) ?_
        obtain ⟨hi11, hD⟩ := gi_some hD
        refine isX C hP hS 9 rfl hi11 dX11_worstSorts_53 st_9 (fun H locs hP hS => ?_)
        refine lv_iinc (v := x4 + (1 : Int32)) (lv' := [(4, .int (x4 + (1 : Int32))), (0, .ref (g.2.2 0)), (1, .int x1), (2, .int x2), (3, .int x3)]) C.1 C.2.1 dX11_worstSorts_54 hl (k := 4) rfl rfl (by decide) rfl (fun ls hl => ?_)
        refine lv_goto (tgt := 5) C.1 C.2.1 dX11_worstSorts_57 (by decide) ?_
        exact ih (x4 + (1 : Int32)) (pt σ 9 x4.toNatClampNeg (-1 : Int32)) H locs ls (lv_sub hl [1, 2, 3, 4, 0] rfl) hP hS hD
      · have hD := b_t c10 hD
        refine lv_aload_n C.1 C.2.1 dX11_worstSorts_27 rfl (lv_at hl 0 rfl) ?_
        refine gf_X11_31_0 C hP dX11_worstSorts_28 ?_
        refine lv_iload C.1 C.2.1 dX11_worstSorts_31 (lv_at hl 4 rfl) ?_
        obtain ⟨hi12, hD⟩ := gi_some hD
        refine aj_X C hP hi12 dX11_worstSorts_33 ?_
        refine lv_aload_n C.1 C.2.1 dX11_worstSorts_34 rfl (lv_at hl 0 rfl) ?_
        refine gf_X11_57_0 C hP dX11_worstSorts_35 ?_
        refine lv_iload_n C.1 C.2.1 dX11_worstSorts_38 rfl (lv_at hl 2 rfl) ?_
        refine lv_aload_n C.1 C.2.1 dX11_worstSorts_39 rfl (lv_at hl 0 rfl) ?_
        refine gf_X11_42_0 C hP dX11_worstSorts_40 ?_
        refine gf_X11_122_10 C hP dX11_worstSorts_43 ?_
        obtain ⟨r13, hd13, hD⟩ := bp_some hD
        refine kW_X11_174 C hd13 ⟨Nat.le_of_ble_eq_true rfl, Nat.le_of_ble_eq_true rfl⟩ hl.1 (Nat.le_of_ble_eq_true rfl) ⟨Nat.zero_le _, Nat.zero_le _⟩ dX11_worstSorts_46 hP hS (fun H locs hP hS => ?_)
        refine lv_goto (tgt := 53) C.1 C.2.1 dX11_worstSorts_49 (by decide) ?_
        obtain ⟨hi14, hD⟩ := gi_some hD
        refine isX C hP hS 9 rfl hi14 dX11_worstSorts_53 st_9 (fun H locs hP hS => ?_)
        refine lv_iinc (v := x4 + (1 : Int32)) (lv' := [(4, .int (x4 + (1 : Int32))), (0, .ref (g.2.2 0)), (1, .int x1), (2, .int x2), (3, .int x3)]) C.1 C.2.1 dX11_worstSorts_54 hl (k := 4) rfl rfl (by decide) rfl (fun ls hl => ?_)
        refine lv_goto (tgt := 5) C.1 C.2.1 dX11_worstSorts_57 (by decide) ?_
        exact ih (x4 + (1 : Int32)) (pt σ 9 x4.toNatClampNeg r13) H locs ls (lv_sub hl [1, 2, 3, 4, 0] rfl) hP hS hD
set_option maxHeartbeats 4000000 in
set_option maxRecDepth 100000 in
theorem c_X11_worstSorts (l : Launch) (g : Gx) (sz : Nat) (N : Nat) (σ : St) (x1 : Int32) (x2 : Int32) {r : Int32} {u : St} (hD : D_X11_worstSorts N σ x1 x2 = some (r, u)) : Met l yX11_worstSorts (Cond.code yX11_worstSorts cX11_worstSorts 7 (some .int) :: tb) rm_X11_worstSorts (PcX g [.ref (g.2.2 0), .int x1, .int x2] σ sz) (QiX g (AX g sz) r u) 0 0 (AX g sz) := by
  refine Met.ofW (cc := cX11_worstSorts) (maxL := 7) (ret := some .int) (by decide) rfl ?_
  intro p e s m args below meth c s₁ B hml hv
  have hv0 := hv
  obtain ⟨rfl, hsz, hP, -⟩ := hv
  subst hsz
  have C : CX g (AX g s.heap.size) p s m _ meth c cX11_worstSorts 7 RX11 := CX.of B hml (fun w h => List.mem_cons_of_mem _ h) rfl hv0
  have hr := B.returns
  have hS : va_S (AX g s.heap.size) s.heap s.heap [] := va_S.rf
  have hl := lv_entry ([.ref (g.2.2 0), .int x1, .int x2]) (n := 7) (Nat.le_of_ble_eq_true rfl)
  rw [lg_entry_eq]
  generalize (lg_sl ([.ref (g.2.2 0), .int x1, .int x2]) ++ List.replicate (7 - (lg_sl ([.ref (g.2.2 0), .int x1, .int x2])).length) Slot.unset).toArray = ls at hl ⊢
  have hl : lv_has ls 7 [(0, .ref (g.2.2 0)), (1, .int x1), (2, .int x2)] := hl
  obtain ⟨H, hH⟩ : ∃ H, H = s.heap := ⟨_, rfl⟩
  have hP : va_P g.1 vwCl (wX g σ) H := by rw [hH]; exact hP
  have hS : va_S (AX g s.heap.size) s.heap H [] := by rw [hH]; exact hS
  refine wH hH ?_
  obtain ⟨locs, hlo⟩ : ∃ locs : List Loc, locs = [] := ⟨_, rfl⟩
  rw [← hlo] at hS
  refine wL hlo ?_
  unfold D_X11_worstSorts at hD
  refine lv_iconst (v := (0 : Int32)) C.1 C.2.1 dX11_worstSorts_0 (by decide) ?_
  refine lv_istore_n (lv' := [(3, .int (0 : Int32)), (0, .ref (g.2.2 0)), (1, .int x1), (2, .int x2)]) C.1 C.2.1 dX11_worstSorts_1 rfl hl (by decide) rfl (fun ls hl => ?_)
  refine lv_iconst (v := (0 : Int32)) C.1 C.2.1 dX11_worstSorts_2 (by decide) ?_
  refine lv_istore (lv' := [(4, .int (0 : Int32)), (3, .int (0 : Int32)), (0, .ref (g.2.2 0)), (1, .int x1), (2, .int x2)]) C.1 C.2.1 dX11_worstSorts_3 hl (by decide) rfl (fun ls hl => ?_)
  exact w_L_X11_worstSorts_5 C hr N x1 x2 (0 : Int32) N (0 : Int32) σ H locs ls (lv_sub hl [2, 3, 4, 1, 0] rfl) hP hS hD
abbrev rm_X11_testFor : Room := { frames := 4, cells := 0, slots := 0, locals := 91 }
set_option maxHeartbeats 4000000 in
set_option maxRecDepth 100000 in
theorem w_L_X11_testFor_8 (C : CX g A p s m args meth c cX11_testFor 6 RX11) (hr : meth.sig.returnType = some .int) (N : Nat) {r : Int32} {u : St} (x1 : Int32) : ∀ (n : Nat) (x2 : Int32) (x3 : Int32) (x4 : Int32) (σ : St) (H : Heap) (locs : List Loc) (ls : Array Slot), lv_has ls 6 [(0, .ref (g.2.2 0)), (1, .int x1), (2, .int x2), (3, .int x3), (4, .int x4)] → va_P g.1 vwCl (wX g σ) H → va_S A s.heap H locs → L_X11_testFor_8 N x1 n x2 x3 x4 σ = some (r, u) → W p l e rm_X11_testFor s m args below meth c H locs 0 0 (MQ below (QiX g A r u) args s 0 0 A) (F0 m 8 ls []) := by
  intro n
  induction n with
  | zero =>
    intro x2 x3 x4 σ H locs ls hl hP hS hD
    rw [L_X11_testFor_8] at hD
    cases hD
  | succ n ih =>
    intro x2 x3 x4 σ H locs ls hl hP hS hD
    rw [L_X11_testFor_8] at hD
    refine lv_iload C.1 C.2.1 dX11_testFor_8 (lv_at hl 4 rfl) ?_
    refine lv_aload_n C.1 C.2.1 dX11_testFor_10 rfl (lv_at hl 0 rfl) ?_
    refine gf_X11_57_0 C hP dX11_testFor_11 ?_
    refine gf_X11_133_20 C hP dX11_testFor_14 ?_
    refine lv_icmp_ge (tgt := 51) C.1 C.2.1 dX11_testFor_17 (by decide) (fun c1 => ?_) (fun c1 => ?_)
    · have hD := b_t c1 hD
      refine lv_iload_n C.1 C.2.1 dX11_testFor_51 rfl (lv_at hl 2 rfl) ?_
      cases hD
      exact ri_X C hr hP hS dX11_testFor_52
    · have hD := b_f c1 hD
      refine lv_iload_n C.1 C.2.1 dX11_testFor_20 rfl (lv_at hl 1 rfl) ?_
      refine lv_if_eq (tgt := 51) C.1 C.2.1 dX11_testFor_21 (by decide) (fun c2 => ?_) (fun c2 => ?_)
      · have hD := b_t c2 hD
        refine lv_iload_n C.1 C.2.1 dX11_testFor_51 rfl (lv_at hl 2 rfl) ?_
        cases hD
        exact ri_X C hr hP hS dX11_testFor_52
      · have hD := b_f c2 hD
        refine lv_aload_n C.1 C.2.1 dX11_testFor_24 rfl (lv_at hl 0 rfl) ?_
        refine lv_iload_n C.1 C.2.1 dX11_testFor_25 rfl (lv_at hl 1 rfl) ?_
        refine lv_iload C.1 C.2.1 dX11_testFor_26 (lv_at hl 4 rfl) ?_
        obtain ⟨r3, s3, hd3, hD⟩ := bs_some hD
        refine kVi_X (As := [.int x1, .int x4]) (rest := []) (ci := 11) (q0 := 0) C (c_X11_worstSorts l g H.size N σ x1 x4 hd3) kw_X11_299 ⟨rfl, rfl⟩ ⟨Nat.le_of_ble_eq_true rfl, Nat.le_of_ble_eq_true rfl⟩ kv_X11_worstSorts rfl rfl rfl hl.1 (Nat.le_of_ble_eq_true rfl) ⟨Nat.zero_le _, Nat.zero_le _⟩ dX11_testFor_28 hP hS rfl (fun H locs hP hS => ?_)
        refine lv_istore (lv' := [(5, .int r3), (0, .ref (g.2.2 0)), (1, .int x1), (2, .int x2), (3, .int x3), (4, .int x4)]) C.1 C.2.1 dX11_testFor_31 hl (by decide) rfl (fun ls hl => ?_)
        refine lv_iload C.1 C.2.1 dX11_testFor_33 (lv_at hl 0 rfl) ?_
        refine lv_iload_n C.1 C.2.1 dX11_testFor_35 rfl (lv_at hl 4 rfl) ?_
        refine lv_icmp_ge (tgt := 45) C.1 C.2.1 dX11_testFor_36 (by decide) (fun c4 => ?_) (fun c4 => ?_)
        · have hD := b_t c4 hD
          refine lv_iinc (v := x4 + (1 : Int32)) (lv' := [(4, .int (x4 + (1 : Int32))), (5, .int r3), (0, .ref (g.2.2 0)), (1, .int x1), (2, .int x2), (3, .int x3)]) C.1 C.2.1 dX11_testFor_45 hl (k := 5) rfl rfl (by decide) rfl (fun ls hl => ?_)
          refine lv_goto (tgt := 8) C.1 C.2.1 dX11_testFor_48 (by decide) ?_
          exact ih x2 x3 (x4 + (1 : Int32)) s3 H locs ls (lv_sub hl [2, 3, 4, 5, 0] rfl) hP hS hD
        · have hD := b_f c4 hD
          refine lv_iload C.1 C.2.1 dX11_testFor_39 (lv_at hl 0 rfl) ?_
          refine lv_istore_n (lv' := [(3, .int r3), (5, .int r3), (0, .ref (g.2.2 0)), (1, .int x1), (2, .int x2), (4, .int x4)]) C.1 C.2.1 dX11_testFor_41 rfl hl (by decide) rfl (fun ls hl => ?_)
          refine lv_iload C.1 C.2.1 dX11_testFor_42 (lv_at hl 5 rfl) ?_
          refine lv_istore_n (lv' := [(2, .int x4), (3, .int r3), (5, .int r3), (0, .ref (g.2.2 0)), (1, .int x1), (4, .int x4)]) C.1 C.2.1 dX11_testFor_44 rfl hl (by decide) rfl (fun ls hl => ?_)
          refine lv_iinc (v := x4 + (1 : Int32)) (lv' := [(4, .int (x4 + (1 : Int32))), (2, .int x4), (3, .int r3), (5, .int r3), (0, .ref (g.2.2 0)), (1, .int x1)]) C.1 C.2.1 dX11_testFor_45 hl (k := 5) rfl rfl (by decide) rfl (fun ls hl => ?_)
          refine lv_goto (tgt := 8) C.1 C.2.1 dX11_testFor_48 (by decide) ?_
          exact ih x4 r3 (x4 + (1 : Int32)) s3 H locs ls (lv_sub hl [4, 5, 1, 2, 0] rfl) hP hS hD
set_option maxHeartbeats 4000000 in
set_option maxRecDepth 100000 in
theorem c_X11_testFor (l : Launch) (g : Gx) (sz : Nat) (N : Nat) (σ : St) (x1 : Int32) {r : Int32} {u : St} (hD : D_X11_testFor N σ x1 = some (r, u)) : Met l yX11_testFor (Cond.code yX11_testFor cX11_testFor 6 (some .int) :: tb) rm_X11_testFor (PcX g [.ref (g.2.2 0), .int x1] σ sz) (QiX g (AX g sz) r u) 0 0 (AX g sz) := by
  refine Met.ofW (cc := cX11_testFor) (maxL := 6) (ret := some .int) (by decide) rfl ?_
  intro p e s m args below meth c s₁ B hml hv
  have hv0 := hv
  obtain ⟨rfl, hsz, hP, -⟩ := hv
  subst hsz
  have C : CX g (AX g s.heap.size) p s m _ meth c cX11_testFor 6 RX11 := CX.of B hml (fun w h => List.mem_cons_of_mem _ h) rfl hv0
  have hr := B.returns
  have hS : va_S (AX g s.heap.size) s.heap s.heap [] := va_S.rf
  have hl := lv_entry ([.ref (g.2.2 0), .int x1]) (n := 6) (Nat.le_of_ble_eq_true rfl)
  rw [lg_entry_eq]
  generalize (lg_sl ([.ref (g.2.2 0), .int x1]) ++ List.replicate (6 - (lg_sl ([.ref (g.2.2 0), .int x1])).length) Slot.unset).toArray = ls at hl ⊢
  have hl : lv_has ls 6 [(0, .ref (g.2.2 0)), (1, .int x1)] := hl
  obtain ⟨H, hH⟩ : ∃ H, H = s.heap := ⟨_, rfl⟩
  have hP : va_P g.1 vwCl (wX g σ) H := by rw [hH]; exact hP
  have hS : va_S (AX g s.heap.size) s.heap H [] := by rw [hH]; exact hS
  refine wH hH ?_
  obtain ⟨locs, hlo⟩ : ∃ locs : List Loc, locs = [] := ⟨_, rfl⟩
  rw [← hlo] at hS
  refine wL hlo ?_
  unfold D_X11_testFor at hD
  refine lv_iconst (v := (-1 : Int32)) C.1 C.2.1 dX11_testFor_0 (by decide) ?_
  refine lv_istore_n (lv' := [(2, .int (-1 : Int32)), (0, .ref (g.2.2 0)), (1, .int x1)]) C.1 C.2.1 dX11_testFor_1 rfl hl (by decide) rfl (fun ls hl => ?_)
  refine lv_bipush (v := (6 : Int32)) C.1 C.2.1 dX11_testFor_2 (by decide) ?_
  refine lv_istore_n (lv' := [(3, .int (6 : Int32)), (2, .int (-1 : Int32)), (0, .ref (g.2.2 0)), (1, .int x1)]) C.1 C.2.1 dX11_testFor_4 rfl hl (by decide) rfl (fun ls hl => ?_)
  refine lv_iconst (v := (0 : Int32)) C.1 C.2.1 dX11_testFor_5 (by decide) ?_
  refine lv_istore (lv' := [(4, .int (0 : Int32)), (3, .int (6 : Int32)), (2, .int (-1 : Int32)), (0, .ref (g.2.2 0)), (1, .int x1)]) C.1 C.2.1 dX11_testFor_6 hl (by decide) rfl (fun ls hl => ?_)
  exact w_L_X11_testFor_8 C hr N x1 N (-1 : Int32) (6 : Int32) (0 : Int32) σ H locs ls (lv_sub hl [3, 4, 2, 1, 0] rfl) hP hS hD
abbrev rm_X11_judge : Room := { frames := 5, cells := 0, slots := 0, locals := 116 }
set_option maxHeartbeats 4000000 in
set_option maxRecDepth 100000 in
theorem c_X11_judge (l : Launch) (g : Gx) (sz : Nat) (N : Nat) (σ : St) (x1 : Int32) (x2 : Int32) {r : Int32} {u : St} (hD : D_X11_judge N σ x1 x2 = some (r, u)) : Met l yX11_judge (Cond.code yX11_judge cX11_judge 3 (some .int) :: tb) rm_X11_judge (PcX g [.ref (g.2.2 0), .int x1, .int x2] σ sz) (QiX g (AX g sz) r u) 0 0 (AX g sz) := by
  refine Met.ofW (cc := cX11_judge) (maxL := 3) (ret := some .int) (by decide) rfl ?_
  intro p e s m args below meth c s₁ B hml hv
  have hv0 := hv
  obtain ⟨rfl, hsz, hP, -⟩ := hv
  subst hsz
  have C : CX g (AX g s.heap.size) p s m _ meth c cX11_judge 3 RX11 := CX.of B hml (fun w h => List.mem_cons_of_mem _ h) rfl hv0
  have hr := B.returns
  have hS : va_S (AX g s.heap.size) s.heap s.heap [] := va_S.rf
  have hl := lv_entry ([.ref (g.2.2 0), .int x1, .int x2]) (n := 3) (Nat.le_of_ble_eq_true rfl)
  rw [lg_entry_eq]
  generalize (lg_sl ([.ref (g.2.2 0), .int x1, .int x2]) ++ List.replicate (3 - (lg_sl ([.ref (g.2.2 0), .int x1, .int x2])).length) Slot.unset).toArray = ls at hl ⊢
  have hl : lv_has ls 3 [(0, .ref (g.2.2 0)), (1, .int x1), (2, .int x2)] := hl
  obtain ⟨H, hH⟩ : ∃ H, H = s.heap := ⟨_, rfl⟩
  have hP : va_P g.1 vwCl (wX g σ) H := by rw [hH]; exact hP
  have hS : va_S (AX g s.heap.size) s.heap H [] := by rw [hH]; exact hS
  refine wH hH ?_
  obtain ⟨locs, hlo⟩ : ∃ locs : List Loc, locs = [] := ⟨_, rfl⟩
  rw [← hlo] at hS
  refine wL hlo ?_
  unfold D_X11_judge at hD
  refine lv_aload_n C.1 C.2.1 dX11_judge_0 rfl (lv_at hl 0 rfl) ?_
  refine lv_iload_n C.1 C.2.1 dX11_judge_1 rfl (lv_at hl 1 rfl) ?_
  obtain ⟨r1, hd1, hD⟩ := bp_some hD
  refine kVi_X (As := [.int x1]) (rest := []) (ci := 11) (q0 := 0) C (c_X11_isJudge l g H.size σ x1 hd1) kw_X11_134 ⟨rfl, rfl⟩ ⟨Nat.le_of_ble_eq_true rfl, Nat.le_of_ble_eq_true rfl⟩ kv_X11_isJudge rfl rfl rfl hl.1 (Nat.le_of_ble_eq_true rfl) ⟨Nat.zero_le _, Nat.zero_le _⟩ dX11_judge_2 hP hS rfl (fun H locs hP hS => ?_)
  refine lv_if_ne (tgt := 11) C.1 C.2.1 dX11_judge_5 (by decide) (fun c2 => ?_) (fun c2 => ?_)
  · have hD := b_f c2 hD
    refine lv_iload_n C.1 C.2.1 dX11_judge_11 rfl (lv_at hl 2 rfl) ?_
    by_cases c3 : x2 = (0 : Int32)
    · have hD := b_t c3 hD
      refine lv_tableIn (off := 36) (tgt := 48) C.1 C.2.1 dX11_judge_12 (by rw [c3]; decide) (by rw [c3]; decide) (by rw [c3]; rfl) (by decide) ?_
      refine lv_aload_n C.1 C.2.1 dX11_judge_48 rfl (lv_at hl 0 rfl) ?_
      refine gf_X11_42_0 C hP dX11_judge_49 ?_
      refine gf_X11_113_10 C hP dX11_judge_52 ?_
      refine lv_iload_n C.1 C.2.1 dX11_judge_55 rfl (lv_at hl 1 rfl) ?_
      obtain ⟨hi4, hD⟩ := gi_some hD
      refine iaX C hP 11 rfl hi4 dX11_judge_56 ?_
      cases hD
      exact ri_X C hr hP hS dX11_judge_57
    · have hD := b_f c3 hD
      by_cases c5 : x2 = (1 : Int32)
      · have hD := b_t c5 hD
        refine lv_tableIn (off := 46) (tgt := 58) C.1 C.2.1 dX11_judge_12 (by rw [c5]; decide) (by rw [c5]; decide) (by rw [c5]; rfl) (by decide) ?_
        refine lv_aload_n C.1 C.2.1 dX11_judge_58 rfl (lv_at hl 0 rfl) ?_
        refine gf_X11_42_0 C hP dX11_judge_59 ?_
        refine lv_iload_n C.1 C.2.1 dX11_judge_62 rfl (lv_at hl 1 rfl) ?_
        obtain ⟨r6, hd6, hD⟩ := bp_some hD
        refine kVi_X (As := [.int x1]) (rest := []) (ci := 0) (q0 := 10) C (c_X0_shownTo l g H.size N σ x1 hd6) kw_X11_138 ⟨rfl, rfl⟩ ⟨Nat.le_of_ble_eq_true rfl, Nat.le_of_ble_eq_true rfl⟩ kv_X0_shownTo rfl rfl rfl hl.1 (Nat.le_of_ble_eq_true rfl) ⟨Nat.zero_le _, Nat.zero_le _⟩ dX11_judge_63 hP hS rfl (fun H locs hP hS => ?_)
        cases hD
        exact ri_X C hr hP hS dX11_judge_66
      · have hD := b_f c5 hD
        by_cases c7 : x2 = (2 : Int32)
        · have hD := b_t c7 hD
          refine lv_tableIn (off := 55) (tgt := 67) C.1 C.2.1 dX11_judge_12 (by rw [c7]; decide) (by rw [c7]; decide) (by rw [c7]; rfl) (by decide) ?_
          refine lv_aload_n C.1 C.2.1 dX11_judge_67 rfl (lv_at hl 0 rfl) ?_
          refine lv_iload_n C.1 C.2.1 dX11_judge_68 rfl (lv_at hl 1 rfl) ?_
          obtain ⟨r8, hd8, hD⟩ := bp_some hD
          refine kVi_X (As := [.int x1]) (rest := []) (ci := 11) (q0 := 0) C (c_X11_sorts l g H.size N σ x1 hd8) kw_X11_141 ⟨rfl, rfl⟩ ⟨Nat.le_of_ble_eq_true rfl, Nat.le_of_ble_eq_true rfl⟩ kv_X11_sorts rfl rfl rfl hl.1 (Nat.le_of_ble_eq_true rfl) ⟨Nat.zero_le _, Nat.zero_le _⟩ dX11_judge_69 hP hS rfl (fun H locs hP hS => ?_)
          cases hD
          exact ri_X C hr hP hS dX11_judge_72
        · have hD := b_f c7 hD
          by_cases c9 : x2 = (3 : Int32)
          · have hD := b_t c9 hD
            refine lv_tableIn (off := 61) (tgt := 73) C.1 C.2.1 dX11_judge_12 (by rw [c9]; decide) (by rw [c9]; decide) (by rw [c9]; rfl) (by decide) ?_
            refine lv_aload_n C.1 C.2.1 dX11_judge_73 rfl (lv_at hl 0 rfl) ?_
            refine lv_aload_n C.1 C.2.1 dX11_judge_74 rfl (lv_at hl 0 rfl) ?_
            refine lv_iload_n C.1 C.2.1 dX11_judge_75 rfl (lv_at hl 1 rfl) ?_
            obtain ⟨r10, hd10, hD⟩ := bp_some hD
            refine kVi_X (As := [.int x1]) (rest := [.ref (g.2.2 0)]) (ci := 11) (q0 := 0) C (c_X11_sorts l g H.size N σ x1 hd10) kw_X11_141 ⟨rfl, rfl⟩ ⟨Nat.le_of_ble_eq_true rfl, Nat.le_of_ble_eq_true rfl⟩ kv_X11_sorts rfl rfl rfl hl.1 (Nat.le_of_ble_eq_true rfl) ⟨Nat.zero_le _, Nat.zero_le _⟩ dX11_judge_76 hP hS rfl (fun H locs hP hS => ?_)
            obtain ⟨r11, s11, hd11, hD⟩ := bs_some hD
            refine kVi_X (As := [.int r10]) (rest := []) (ci := 11) (q0 := 0) C (c_X11_testFor l g H.size N σ r10 hd11) kw_X11_144 ⟨rfl, rfl⟩ ⟨Nat.le_of_ble_eq_true rfl, Nat.le_of_ble_eq_true rfl⟩ kv_X11_testFor rfl rfl rfl hl.1 (Nat.le_of_ble_eq_true rfl) ⟨Nat.zero_le _, Nat.zero_le _⟩ dX11_judge_79 hP hS rfl (fun H locs hP hS => ?_)
            cases hD
            exact ri_X C hr hP hS dX11_judge_82
          · have hD := b_f c9 hD
            by_cases c12 : x2 = (4 : Int32)
            · have hD := b_t c12 hD
              refine lv_tableIn (off := 71) (tgt := 83) C.1 C.2.1 dX11_judge_12 (by rw [c12]; decide) (by rw [c12]; decide) (by rw [c12]; rfl) (by decide) ?_
              refine lv_aload_n C.1 C.2.1 dX11_judge_83 rfl (lv_at hl 0 rfl) ?_
              refine gf_X11_57_0 C hP dX11_judge_84 ?_
              refine lv_aload_n C.1 C.2.1 dX11_judge_87 rfl (lv_at hl 0 rfl) ?_
              refine lv_iload_n C.1 C.2.1 dX11_judge_88 rfl (lv_at hl 1 rfl) ?_
              obtain ⟨r13, hd13, hD⟩ := bp_some hD
              refine kVr_X (As := [.int x1]) (rest := [.ref (g.2.2 20)]) (ci := 11) (q0 := 0) C (c_X11_judgeAt l g H.size σ x1 hd13) kw_X11_147 ⟨rfl, rfl⟩ ⟨Nat.le_of_ble_eq_true rfl, Nat.le_of_ble_eq_true rfl⟩ kv_X11_judgeAt rfl rfl rfl hl.1 (Nat.le_of_ble_eq_true rfl) ⟨Nat.zero_le _, Nat.zero_le _⟩ dX11_judge_89 hP hS rfl (fun H locs hP hS => ?_)
              obtain ⟨r14, hd14, hD⟩ := bp_some hD
              refine kVi_X (As := [.ref (g.2.2 (4 + r13))]) (rest := []) (ci := 6) (q0 := 20) C (c_X6_twins l g H.size N σ r13 hd14) kw_X11_151 ⟨rfl, rfl⟩ ⟨Nat.le_of_ble_eq_true rfl, Nat.le_of_ble_eq_true rfl⟩ kv_X6_twins rfl rfl rfl hl.1 (Nat.le_of_ble_eq_true rfl) ⟨Nat.zero_le _, Nat.zero_le _⟩ dX11_judge_92 hP hS rfl (fun H locs hP hS => ?_)
              cases hD
              exact ri_X C hr hP hS dX11_judge_95
            · have hD := b_f c12 hD
              refine lv_tableOut (tgt := 96) C.1 C.2.1 dX11_judge_12 (by have q3 := lv_neT c3 (a := 0) (by decide); have q5 := lv_neT c5 (a := 1) (by decide); have q7 := lv_neT c7 (a := 2) (by decide); have q9 := lv_neT c9 (a := 3) (by decide); have q12 := lv_neT c12 (a := 4) (by decide); omega) (by decide) ?_
              refine lv_bipush (v := (-102 : Int32)) C.1 C.2.1 dX11_judge_96 (by decide) ?_
              cases hD
              exact ri_X C hr hP hS dX11_judge_98
  · have hD := b_t c2 hD
    refine lv_bipush (v := (-101 : Int32)) C.1 C.2.1 dX11_judge_8 (by decide) ?_
    cases hD
    exact ri_X C hr hP hS dX11_judge_10
abbrev rm_X11_with : Room := { frames := 0, cells := 0, slots := 0, locals := 0 }
set_option maxHeartbeats 4000000 in
set_option maxRecDepth 100000 in
theorem c_X11_with (l : Launch) (g : Gx) (sz : Nat) (σ : St) (y0 : Int64) (x2 : Int32) {r : Int64} (hD : D_X11_with y0 x2 = some r) : Met l yX11_with (Cond.code yX11_with cX11_with 3 (some .long) :: tb) rm_X11_with (PcX g [.long y0, .int x2] σ sz) (QlX g (AX g sz) r σ) 0 0 (AX g sz) := by
  refine Met.ofW (cc := cX11_with) (maxL := 3) (ret := some .long) (by decide) rfl ?_
  intro p e s m args below meth c s₁ B hml hv
  have hv0 := hv
  obtain ⟨rfl, hsz, hP, -⟩ := hv
  subst hsz
  have C : CX g (AX g s.heap.size) p s m _ meth c cX11_with 3 RX11 := CX.of B hml (fun w h => List.mem_cons_of_mem _ h) rfl hv0
  have hr := B.returns
  have hS : va_S (AX g s.heap.size) s.heap s.heap [] := va_S.rf
  have hl := lv_entry ([.long y0, .int x2]) (n := 3) (Nat.le_of_ble_eq_true rfl)
  rw [lg_entry_eq]
  generalize (lg_sl ([.long y0, .int x2]) ++ List.replicate (3 - (lg_sl ([.long y0, .int x2])).length) Slot.unset).toArray = ls at hl ⊢
  have hl : lv_has ls 3 [(0, .long y0), (2, .int x2)] := hl
  obtain ⟨H, hH⟩ : ∃ H, H = s.heap := ⟨_, rfl⟩
  have hP : va_P g.1 vwCl (wX g σ) H := by rw [hH]; exact hP
  have hS : va_S (AX g s.heap.size) s.heap H [] := by rw [hH]; exact hS
  refine wH hH ?_
  obtain ⟨locs, hlo⟩ : ∃ locs : List Loc, locs = [] := ⟨_, rfl⟩
  rw [← hlo] at hS
  refine wL hlo ?_
  unfold D_X11_with at hD
  refine lv_ldc2 (v := (31 : Int64)) (own := RX11) C.1 C.2.1 C.2.2.2.1 (C.2.2.2.2.1 (.constantLong RX11 293 (31 : Int64)) (tb_in 768 (by decide +kernel) (by decide +kernel))) dX11_with_0 ?_
  refine lv_lload_n C.1 C.2.1 dX11_with_3 rfl (lv_at hl 0 rfl) ?_
  refine lv_lmul C.1 C.2.1 dX11_with_4 ?_
  refine lv_iload_n C.1 C.2.1 dX11_with_5 rfl (lv_at hl 1 rfl) ?_
  refine lv_i2l C.1 C.2.1 dX11_with_6 rfl ?_
  refine lv_ladd C.1 C.2.1 dX11_with_7 ?_
  cases hD
  exact rl_X C hr hP hS dX11_with_8
abbrev rm_X11_isRow : Room := { frames := 0, cells := 0, slots := 0, locals := 0 }
set_option maxHeartbeats 4000000 in
set_option maxRecDepth 100000 in
theorem c_X11_isRow (l : Launch) (g : Gx) (sz : Nat) (σ : St) (x1 : Int32) {r : Int32} (hD : D_X11_isRow σ x1 = some r) : Met l yX11_isRow (Cond.code yX11_isRow cX11_isRow 2 (some .boolean) :: tb) rm_X11_isRow (PcX g [.ref (g.2.2 0), .int x1] σ sz) (QiX g (AX g sz) r σ) 0 0 (AX g sz) := by
  refine Met.ofW (cc := cX11_isRow) (maxL := 2) (ret := some .boolean) (by decide) rfl ?_
  intro p e s m args below meth c s₁ B hml hv
  have hv0 := hv
  obtain ⟨rfl, hsz, hP, -⟩ := hv
  subst hsz
  have C : CX g (AX g s.heap.size) p s m _ meth c cX11_isRow 2 RX11 := CX.of B hml (fun w h => List.mem_cons_of_mem _ h) rfl hv0
  have hr := B.returns
  have hS : va_S (AX g s.heap.size) s.heap s.heap [] := va_S.rf
  have hl := lv_entry ([.ref (g.2.2 0), .int x1]) (n := 2) (Nat.le_of_ble_eq_true rfl)
  rw [lg_entry_eq]
  generalize (lg_sl ([.ref (g.2.2 0), .int x1]) ++ List.replicate (2 - (lg_sl ([.ref (g.2.2 0), .int x1])).length) Slot.unset).toArray = ls at hl ⊢
  have hl : lv_has ls 2 [(0, .ref (g.2.2 0)), (1, .int x1)] := hl
  obtain ⟨H, hH⟩ : ∃ H, H = s.heap := ⟨_, rfl⟩
  have hP : va_P g.1 vwCl (wX g σ) H := by rw [hH]; exact hP
  have hS : va_S (AX g s.heap.size) s.heap H [] := by rw [hH]; exact hS
  refine wH hH ?_
  obtain ⟨locs, hlo⟩ : ∃ locs : List Loc, locs = [] := ⟨_, rfl⟩
  rw [← hlo] at hS
  refine wL hlo ?_
  unfold D_X11_isRow at hD
  refine lv_iload_n C.1 C.2.1 dX11_isRow_0 rfl (lv_at hl 1 rfl) ?_
  refine lv_if_lt (tgt := 19) C.1 C.2.1 dX11_isRow_1 (by decide) (fun c1 => ?_) (fun c1 => ?_)
  · have hD := b_t c1 hD
    refine lv_iconst (v := (0 : Int32)) C.1 C.2.1 dX11_isRow_19 (by decide) ?_
    cases hD
    exact rz_X C hr (Or.inl rfl) hP hS dX11_isRow_20
  · have hD := b_f c1 hD
    refine lv_iload_n C.1 C.2.1 dX11_isRow_4 rfl (lv_at hl 1 rfl) ?_
    refine lv_aload_n C.1 C.2.1 dX11_isRow_5 rfl (lv_at hl 0 rfl) ?_
    refine gf_X11_57_0 C hP dX11_isRow_6 ?_
    refine gf_X11_133_20 C hP dX11_isRow_9 ?_
    refine lv_icmp_ge (tgt := 19) C.1 C.2.1 dX11_isRow_12 (by decide) (fun c2 => ?_) (fun c2 => ?_)
    · have hD := b_t c2 hD
      refine lv_iconst (v := (0 : Int32)) C.1 C.2.1 dX11_isRow_19 (by decide) ?_
      cases hD
      exact rz_X C hr (Or.inl rfl) hP hS dX11_isRow_20
    · have hD := b_f c2 hD
      refine lv_iconst (v := (1 : Int32)) C.1 C.2.1 dX11_isRow_15 (by decide) ?_
      refine lv_goto (tgt := 20) C.1 C.2.1 dX11_isRow_16 (by decide) ?_
      cases hD
      exact rz_X C hr (Or.inr rfl) hP hS dX11_isRow_20
abbrev rm_X5_squares : Room := { frames := 4, cells := 0, slots := 0, locals := 89 }
set_option maxHeartbeats 4000000 in
set_option maxRecDepth 100000 in
theorem w_L_X5_squares_22 (C : CX g A p s m args meth c cX5_squares 8 RX5) (hr : meth.sig.returnType = some .int) (N : Nat) {r : Int32} {u : St} (x5 : Int32) : ∀ (n : Nat) (x3 : Int32) (x6 : Int32) (σ : St) (H : Heap) (locs : List Loc) (ls : Array Slot), lv_has ls 8 [(3, .int x3), (4, .ref (g.2.2 27)), (5, .int x5), (6, .int x6)] → va_P g.1 vwCl (wX g σ) H → va_S A s.heap H locs → L_X5_squares_22 N x5 n x3 x6 σ = some (r, u) → W p l e rm_X5_squares s m args below meth c H locs 0 0 (MQ below (QiX g A r u) args s 0 0 A) (F0 m 22 ls []) := by
  intro n
  induction n with
  | zero =>
    intro x3 x6 σ H locs ls hl hP hS hD
    rw [L_X5_squares_22] at hD
    cases hD
  | succ n ih =>
    intro x3 x6 σ H locs ls hl hP hS hD
    rw [L_X5_squares_22] at hD
    refine lv_iload C.1 C.2.1 dX5_squares_22 (lv_at hl 3 rfl) ?_
    refine lv_iload C.1 C.2.1 dX5_squares_24 (lv_at hl 2 rfl) ?_
    refine lv_icmp_ge (tgt := 50) C.1 C.2.1 dX5_squares_26 (by decide) (fun c2 => ?_) (fun c2 => ?_)
    · have hD := b_t c2 hD
      refine lv_iload_n C.1 C.2.1 dX5_squares_50 rfl (lv_at hl 0 rfl) ?_
      cases hD
      exact ri_X C hr hP hS dX5_squares_51
    · have hD := b_f c2 hD
      refine lv_aload C.1 C.2.1 dX5_squares_29 (lv_at hl 1 rfl) ?_
      refine lv_iload C.1 C.2.1 dX5_squares_31 (lv_at hl 3 rfl) ?_
      obtain ⟨hi3, hD⟩ := gi_some hD
      refine iaX C hP 27 rfl hi3 dX5_squares_33 ?_
      refine lv_istore (lv' := [(7, .int (σ 27 x6.toNatClampNeg)), (3, .int x3), (4, .ref (g.2.2 27)), (5, .int x5), (6, .int x6)]) C.1 C.2.1 dX5_squares_34 hl (by decide) rfl (fun ls hl => ?_)
      refine lv_iload_n C.1 C.2.1 dX5_squares_36 rfl (lv_at hl 1 rfl) ?_
      refine lv_iload C.1 C.2.1 dX5_squares_37 (lv_at hl 0 rfl) ?_
      refine lv_iload C.1 C.2.1 dX5_squares_39 (lv_at hl 0 rfl) ?_
      refine lv_imul C.1 C.2.1 dX5_squares_41 ?_
      refine lv_iadd C.1 C.2.1 dX5_squares_42 ?_
      refine lv_istore_n (lv' := [(3, .int (x3 + ((σ 27 x6.toNatClampNeg) * (σ 27 x6.toNatClampNeg)))), (7, .int (σ 27 x6.toNatClampNeg)), (4, .ref (g.2.2 27)), (5, .int x5), (6, .int x6)]) C.1 C.2.1 dX5_squares_43 rfl hl (by decide) rfl (fun ls hl => ?_)
      refine lv_iinc (v := x6 + (1 : Int32)) (lv' := [(6, .int (x6 + (1 : Int32))), (3, .int (x3 + ((σ 27 x6.toNatClampNeg) * (σ 27 x6.toNatClampNeg)))), (7, .int (σ 27 x6.toNatClampNeg)), (4, .ref (g.2.2 27)), (5, .int x5)]) C.1 C.2.1 dX5_squares_44 hl (k := 4) rfl rfl (by decide) rfl (fun ls hl => ?_)
      refine lv_goto (tgt := 22) C.1 C.2.1 dX5_squares_47 (by decide) ?_
      exact ih (x3 + ((σ 27 x6.toNatClampNeg) * (σ 27 x6.toNatClampNeg))) (x6 + (1 : Int32)) σ H locs ls (lv_sub hl [1, 3, 4, 0] rfl) hP hS hD
set_option maxHeartbeats 4000000 in
set_option maxRecDepth 100000 in
theorem c_X5_squares (l : Launch) (g : Gx) (sz : Nat) (N : Nat) (σ : St) (k1 : Nat) (x2 : Int32) {r : Int32} {u : St} (hD : D_X5_squares N σ k1 x2 = some (r, u)) : Met l yX5_squares (Cond.code yX5_squares cX5_squares 8 (some .int) :: tb) rm_X5_squares (PcX g [.ref (g.2.2 24), .ref (g.2.2 (4 + k1)), .int x2] σ sz) (QiX g (AX g sz) r u) 0 0 (AX g sz) := by
  refine Met.ofW (cc := cX5_squares) (maxL := 8) (ret := some .int) (by decide) rfl ?_
  intro p e s m args below meth c s₁ B hml hv
  have hv0 := hv
  obtain ⟨rfl, hsz, hP, -⟩ := hv
  subst hsz
  have C : CX g (AX g s.heap.size) p s m _ meth c cX5_squares 8 RX5 := CX.of B hml (fun w h => List.mem_cons_of_mem _ h) rfl hv0
  have hr := B.returns
  have hS : va_S (AX g s.heap.size) s.heap s.heap [] := va_S.rf
  have hl := lv_entry ([.ref (g.2.2 24), .ref (g.2.2 (4 + k1)), .int x2]) (n := 8) (Nat.le_of_ble_eq_true rfl)
  rw [lg_entry_eq]
  generalize (lg_sl ([.ref (g.2.2 24), .ref (g.2.2 (4 + k1)), .int x2]) ++ List.replicate (8 - (lg_sl ([.ref (g.2.2 24), .ref (g.2.2 (4 + k1)), .int x2])).length) Slot.unset).toArray = ls at hl ⊢
  have hl : lv_has ls 8 [(0, .ref (g.2.2 24)), (1, .ref (g.2.2 (4 + k1))), (2, .int x2)] := hl
  obtain ⟨H, hH⟩ : ∃ H, H = s.heap := ⟨_, rfl⟩
  have hP : va_P g.1 vwCl (wX g σ) H := by rw [hH]; exact hP
  have hS : va_S (AX g s.heap.size) s.heap H [] := by rw [hH]; exact hS
  refine wH hH ?_
  obtain ⟨locs, hlo⟩ : ∃ locs : List Loc, locs = [] := ⟨_, rfl⟩
  rw [← hlo] at hS
  refine wL hlo ?_
  unfold D_X5_squares at hD
  refine lv_aload_n C.1 C.2.1 dX5_squares_0 rfl (lv_at hl 0 rfl) ?_
  refine lv_aload_n C.1 C.2.1 dX5_squares_1 rfl (lv_at hl 1 rfl) ?_
  refine lv_iload_n C.1 C.2.1 dX5_squares_2 rfl (lv_at hl 2 rfl) ?_
  obtain ⟨s1, hd1, hD⟩ := bp_some hD
  refine kVv_X (As := [.ref (g.2.2 (4 + k1)), .int x2]) (rest := []) (ci := 5) (q0 := 24) C (c_X5_tally l g H.size N σ k1 x2 hd1) kw_X5_43 ⟨rfl, rfl⟩ ⟨Nat.le_of_ble_eq_true rfl, Nat.le_of_ble_eq_true rfl⟩ kv_X5_tally rfl rfl rfl hl.1 (Nat.le_of_ble_eq_true rfl) ⟨Nat.zero_le _, Nat.zero_le _⟩ dX5_squares_3 hP hS rfl (fun H locs hP hS => ?_)
  refine lv_iconst (v := (0 : Int32)) C.1 C.2.1 dX5_squares_6 (by decide) ?_
  refine lv_istore_n (lv' := [(3, .int (0 : Int32)), (0, .ref (g.2.2 24)), (1, .ref (g.2.2 (4 + k1))), (2, .int x2)]) C.1 C.2.1 dX5_squares_7 rfl hl (by decide) rfl (fun ls hl => ?_)
  refine lv_aload_n C.1 C.2.1 dX5_squares_8 rfl (lv_at hl 1 rfl) ?_
  refine gf_X5_19_24 C hP dX5_squares_9 ?_
  refine lv_astore (lv' := [(4, .ref (g.2.2 27)), (3, .int (0 : Int32)), (0, .ref (g.2.2 24)), (1, .ref (g.2.2 (4 + k1))), (2, .int x2)]) C.1 C.2.1 dX5_squares_12 hl (by decide) rfl (fun ls hl => ?_)
  refine lv_aload C.1 C.2.1 dX5_squares_14 (lv_at hl 0 rfl) ?_
  refine alX C hP 27 (v := (31 : Int32)) rfl (by decide) dX5_squares_16 ?_
  refine lv_istore (lv' := [(5, .int (31 : Int32)), (4, .ref (g.2.2 27)), (3, .int (0 : Int32)), (0, .ref (g.2.2 24)), (1, .ref (g.2.2 (4 + k1))), (2, .int x2)]) C.1 C.2.1 dX5_squares_17 hl (by decide) rfl (fun ls hl => ?_)
  refine lv_iconst (v := (0 : Int32)) C.1 C.2.1 dX5_squares_19 (by decide) ?_
  refine lv_istore (lv' := [(6, .int (0 : Int32)), (5, .int (31 : Int32)), (4, .ref (g.2.2 27)), (3, .int (0 : Int32)), (0, .ref (g.2.2 24)), (1, .ref (g.2.2 (4 + k1))), (2, .int x2)]) C.1 C.2.1 dX5_squares_20 hl (by decide) rfl (fun ls hl => ?_)
  exact w_L_X5_squares_22 C hr N (31 : Int32) N (0 : Int32) (0 : Int32) s1 H locs ls (lv_sub hl [3, 2, 1, 0] rfl) hP hS hD
abbrev rm_X11_rest : Room := { frames := 5, cells := 0, slots := 0, locals := 116 }
set_option maxHeartbeats 4000000 in
set_option maxRecDepth 100000 in
theorem w_J_X11_rest_85 (C : CX g A p s m args meth c cX11_rest 6 RX11) (hr : meth.sig.returnType = some .int) (N : Nat) {r : Int32} {u : St} (x5 : Int32) (t0 : Int32) : ∀ (σ : St) (H : Heap) (locs : List Loc) (ls : Array Slot), lv_has ls 6 [(5, .int x5)] → va_P g.1 vwCl (wX g σ) H → va_S A s.heap H locs → J_X11_rest_85 N x5 t0 σ = some (r, u) → W p l e rm_X11_rest s m args below meth c H locs 0 0 (MQ below (QiX g A r u) args s 0 0 A) (F0 m 85 ls [.int t0]) := by
  intro σ H locs ls hl hP hS hD
  unfold J_X11_rest_85 at hD
  refine lv_iload C.1 C.2.1 dX11_rest_85 (lv_at hl 0 rfl) ?_
  obtain ⟨hz13, hD⟩ := gz_some hD
  refine lv_idiv C.1 C.2.1 dX11_rest_87 hz13 ?_
  cases hD
  exact ri_X C hr hP hS dX11_rest_88
set_option maxHeartbeats 4000000 in
set_option maxRecDepth 100000 in
theorem c_X11_rest (l : Launch) (g : Gx) (sz : Nat) (N : Nat) (σ : St) (x1 : Int32) (x2 : Int32) (x3 : Int32) {r : Int32} {u : St} (hD : D_X11_rest N σ x1 x2 x3 = some (r, u)) : Met l yX11_rest (Cond.code yX11_rest cX11_rest 6 (some .int) :: tb) rm_X11_rest (PcX g [.ref (g.2.2 0), .int x1, .int x2, .int x3] σ sz) (QiX g (AX g sz) r u) 0 0 (AX g sz) := by
  refine Met.ofW (cc := cX11_rest) (maxL := 6) (ret := some .int) (by decide) rfl ?_
  intro p e s m args below meth c s₁ B hml hv
  have hv0 := hv
  obtain ⟨rfl, hsz, hP, -⟩ := hv
  subst hsz
  have C : CX g (AX g s.heap.size) p s m _ meth c cX11_rest 6 RX11 := CX.of B hml (fun w h => List.mem_cons_of_mem _ h) rfl hv0
  have hr := B.returns
  have hS : va_S (AX g s.heap.size) s.heap s.heap [] := va_S.rf
  have hl := lv_entry ([.ref (g.2.2 0), .int x1, .int x2, .int x3]) (n := 6) (Nat.le_of_ble_eq_true rfl)
  rw [lg_entry_eq]
  generalize (lg_sl ([.ref (g.2.2 0), .int x1, .int x2, .int x3]) ++ List.replicate (6 - (lg_sl ([.ref (g.2.2 0), .int x1, .int x2, .int x3])).length) Slot.unset).toArray = ls at hl ⊢
  have hl : lv_has ls 6 [(0, .ref (g.2.2 0)), (1, .int x1), (2, .int x2), (3, .int x3)] := hl
  obtain ⟨H, hH⟩ : ∃ H, H = s.heap := ⟨_, rfl⟩
  have hP : va_P g.1 vwCl (wX g σ) H := by rw [hH]; exact hP
  have hS : va_S (AX g s.heap.size) s.heap H [] := by rw [hH]; exact hS
  refine wH hH ?_
  obtain ⟨locs, hlo⟩ : ∃ locs : List Loc, locs = [] := ⟨_, rfl⟩
  rw [← hlo] at hS
  refine wL hlo ?_
  unfold D_X11_rest at hD
  refine lv_aload_n C.1 C.2.1 dX11_rest_0 rfl (lv_at hl 0 rfl) ?_
  refine lv_iload_n C.1 C.2.1 dX11_rest_1 rfl (lv_at hl 1 rfl) ?_
  obtain ⟨r1, hd1, hD⟩ := bp_some hD
  refine kVi_X (As := [.int x1]) (rest := []) (ci := 11) (q0 := 0) C (c_X11_isRow l g H.size σ x1 hd1) kw_X11_162 ⟨rfl, rfl⟩ ⟨Nat.le_of_ble_eq_true rfl, Nat.le_of_ble_eq_true rfl⟩ kv_X11_isRow rfl rfl rfl hl.1 (Nat.le_of_ble_eq_true rfl) ⟨Nat.zero_le _, Nat.zero_le _⟩ dX11_rest_2 hP hS rfl (fun H locs hP hS => ?_)
  refine lv_if_eq (tgt := 16) C.1 C.2.1 dX11_rest_5 (by decide) (fun c2 => ?_) (fun c2 => ?_)
  · have hD := b_t c2 hD
    refine lv_bipush (v := (-101 : Int32)) C.1 C.2.1 dX11_rest_16 (by decide) ?_
    cases hD
    exact ri_X C hr hP hS dX11_rest_18
  · have hD := b_f c2 hD
    refine lv_aload_n C.1 C.2.1 dX11_rest_8 rfl (lv_at hl 0 rfl) ?_
    refine lv_iload_n C.1 C.2.1 dX11_rest_9 rfl (lv_at hl 2 rfl) ?_
    obtain ⟨r3, hd3, hD⟩ := bp_some hD
    refine kVi_X (As := [.int x2]) (rest := []) (ci := 11) (q0 := 0) C (c_X11_isJudge l g H.size σ x2 hd3) kw_X11_134 ⟨rfl, rfl⟩ ⟨Nat.le_of_ble_eq_true rfl, Nat.le_of_ble_eq_true rfl⟩ kv_X11_isJudge rfl rfl rfl hl.1 (Nat.le_of_ble_eq_true rfl) ⟨Nat.zero_le _, Nat.zero_le _⟩ dX11_rest_10 hP hS rfl (fun H locs hP hS => ?_)
    refine lv_if_ne (tgt := 19) C.1 C.2.1 dX11_rest_13 (by decide) (fun c4 => ?_) (fun c4 => ?_)
    · have hD := b_f c4 hD
      refine lv_iload_n C.1 C.2.1 dX11_rest_19 rfl (lv_at hl 3 rfl) ?_
      refine lv_if_lt (tgt := 28) C.1 C.2.1 dX11_rest_20 (by decide) (fun c5 => ?_) (fun c5 => ?_)
      · have hD := b_t c5 hD
        refine lv_bipush (v := (-102 : Int32)) C.1 C.2.1 dX11_rest_28 (by decide) ?_
        cases hD
        exact ri_X C hr hP hS dX11_rest_30
      · have hD := b_f c5 hD
        refine lv_iload_n C.1 C.2.1 dX11_rest_23 rfl (lv_at hl 3 rfl) ?_
        refine lv_iconst (v := (1 : Int32)) C.1 C.2.1 dX11_rest_24 (by decide) ?_
        refine lv_icmp_le (tgt := 31) C.1 C.2.1 dX11_rest_25 (by decide) (fun c6 => ?_) (fun c6 => ?_)
        · have hD := b_t c6 hD
          refine lv_aload_n C.1 C.2.1 dX11_rest_31 rfl (lv_at hl 0 rfl) ?_
          obtain ⟨r7, s7, hd7, hD⟩ := bs_some hD
          refine kVi_X (As := []) (rest := []) (ci := 11) (q0 := 0) C (c_X11_gatherFitting l g H.size N σ hd7) kw_X11_190 ⟨rfl, rfl⟩ ⟨Nat.le_of_ble_eq_true rfl, Nat.le_of_ble_eq_true rfl⟩ kv_X11_gatherFitting rfl rfl rfl hl.1 (Nat.le_of_ble_eq_true rfl) ⟨Nat.zero_le _, Nat.zero_le _⟩ dX11_rest_32 hP hS rfl (fun H locs hP hS => ?_)
          refine lv_if_ne (tgt := 40) C.1 C.2.1 dX11_rest_35 (by decide) (fun c8 => ?_) (fun c8 => ?_)
          · have hD := b_f c8 hD
            refine lv_aload_n C.1 C.2.1 dX11_rest_40 rfl (lv_at hl 0 rfl) ?_
            refine gf_X11_61_0 C hP dX11_rest_41 ?_
            refine lv_aload_n C.1 C.2.1 dX11_rest_44 rfl (lv_at hl 0 rfl) ?_
            refine lv_iload_n C.1 C.2.1 dX11_rest_45 rfl (lv_at hl 2 rfl) ?_
            obtain ⟨r9, hd9, hD⟩ := bp_some hD
            refine kVr_X (As := [.int x2]) (rest := [.ref (g.2.2 24)]) (ci := 11) (q0 := 0) C (c_X11_judgeAt l g H.size s7 x2 hd9) kw_X11_147 ⟨rfl, rfl⟩ ⟨Nat.le_of_ble_eq_true rfl, Nat.le_of_ble_eq_true rfl⟩ kv_X11_judgeAt rfl rfl rfl hl.1 (Nat.le_of_ble_eq_true rfl) ⟨Nat.zero_le _, Nat.zero_le _⟩ dX11_rest_46 hP hS rfl (fun H locs hP hS => ?_)
            refine lv_iload_n C.1 C.2.1 dX11_rest_49 rfl (lv_at hl 1 rfl) ?_
            obtain ⟨r10, s10, hd10, hD⟩ := bs_some hD
            refine kVi_X (As := [.ref (g.2.2 (4 + r9)), .int x1]) (rest := []) (ci := 5) (q0 := 24) C (c_X5_squares l g H.size N s7 r9 x1 hd10) kw_X11_209 ⟨rfl, rfl⟩ ⟨Nat.le_of_ble_eq_true rfl, Nat.le_of_ble_eq_true rfl⟩ kv_X5_squares rfl rfl rfl hl.1 (Nat.le_of_ble_eq_true rfl) ⟨Nat.zero_le _, Nat.zero_le _⟩ dX11_rest_50 hP hS rfl (fun H locs hP hS => ?_)
            refine lv_istore (lv' := [(4, .int r10), (0, .ref (g.2.2 0)), (1, .int x1), (2, .int x2), (3, .int x3)]) C.1 C.2.1 dX11_rest_53 hl (by decide) rfl (fun ls hl => ?_)
            refine lv_iload C.1 C.2.1 dX11_rest_55 (lv_at hl 0 rfl) ?_
            refine lv_aload_n C.1 C.2.1 dX11_rest_57 rfl (lv_at hl 1 rfl) ?_
            refine gf_X11_61_0 C hP dX11_rest_58 ?_
            refine gf_X11_212_24 C hP dX11_rest_61 ?_
            obtain ⟨r11, hd11, hD⟩ := bp_some hD
            refine kSi_X (As := [.int r10, .int (s10 24 2)]) (rest := []) C (c_X11_commonDivisor l g H.size N s10 r10 (s10 24 2) hd11) kw_X11_213 ⟨rfl, rfl⟩ ⟨Nat.le_of_ble_eq_true rfl, Nat.le_of_ble_eq_true rfl⟩ ks_X11_commonDivisor rfl hl.1 (Nat.le_of_ble_eq_true rfl) ⟨Nat.zero_le _, Nat.zero_le _⟩ dX11_rest_64 hP hS rfl (fun H locs hP hS => ?_)
            refine lv_istore (lv' := [(5, .int r11), (4, .int r10), (0, .ref (g.2.2 0)), (1, .int x1), (2, .int x2), (3, .int x3)]) C.1 C.2.1 dX11_rest_67 hl (by decide) rfl (fun ls hl => ?_)
            refine lv_iload_n C.1 C.2.1 dX11_rest_69 rfl (lv_at hl 5 rfl) ?_
            refine lv_if_ne (tgt := 78) C.1 C.2.1 dX11_rest_70 (by decide) (fun c12 => ?_) (fun c12 => ?_)
            · have hD := b_f c12 hD
              refine lv_aload_n C.1 C.2.1 dX11_rest_78 rfl (lv_at hl 2 rfl) ?_
              refine gf_X11_61_0 C hP dX11_rest_79 ?_
              refine gf_X11_212_24 C hP dX11_rest_82 ?_
              exact w_J_X11_rest_85 C hr N r11 (s10 24 2) s10 H locs ls (lv_sub hl [0] rfl) hP hS hD
            · have hD := b_t c12 hD
              refine lv_iload C.1 C.2.1 dX11_rest_73 (lv_at hl 1 rfl) ?_
              refine lv_goto (tgt := 85) C.1 C.2.1 dX11_rest_75 (by decide) ?_
              exact w_J_X11_rest_85 C hr N r11 r10 s10 H locs ls (lv_sub hl [0] rfl) hP hS hD
          · have hD := b_t c8 hD
            refine lv_iload_n C.1 C.2.1 dX11_rest_38 rfl (lv_at hl 3 rfl) ?_
            cases hD
            exact ri_X C hr hP hS dX11_rest_39
        · have hD := b_f c6 hD
          refine lv_bipush (v := (-102 : Int32)) C.1 C.2.1 dX11_rest_28 (by decide) ?_
          cases hD
          exact ri_X C hr hP hS dX11_rest_30
    · have hD := b_t c4 hD
      refine lv_bipush (v := (-101 : Int32)) C.1 C.2.1 dX11_rest_16 (by decide) ?_
      cases hD
      exact ri_X C hr hP hS dX11_rest_18
abbrev rm_X11_seen : Room := { frames := 0, cells := 0, slots := 0, locals := 0 }
set_option maxHeartbeats 4000000 in
set_option maxRecDepth 100000 in
theorem c_X11_seen (l : Launch) (g : Gx) (sz : Nat) (σ : St) (x1 : Int32) (x2 : Int32) {r : Int32} (hD : D_X11_seen σ x1 x2 = some r) : Met l yX11_seen (Cond.code yX11_seen cX11_seen 3 (some .int) :: tb) rm_X11_seen (PcX g [.ref (g.2.2 0), .int x1, .int x2] σ sz) (QiX g (AX g sz) r σ) 0 0 (AX g sz) := by
  refine Met.ofW (cc := cX11_seen) (maxL := 3) (ret := some .int) (by decide) rfl ?_
  intro p e s m args below meth c s₁ B hml hv
  have hv0 := hv
  obtain ⟨rfl, hsz, hP, -⟩ := hv
  subst hsz
  have C : CX g (AX g s.heap.size) p s m _ meth c cX11_seen 3 RX11 := CX.of B hml (fun w h => List.mem_cons_of_mem _ h) rfl hv0
  have hr := B.returns
  have hS : va_S (AX g s.heap.size) s.heap s.heap [] := va_S.rf
  have hl := lv_entry ([.ref (g.2.2 0), .int x1, .int x2]) (n := 3) (Nat.le_of_ble_eq_true rfl)
  rw [lg_entry_eq]
  generalize (lg_sl ([.ref (g.2.2 0), .int x1, .int x2]) ++ List.replicate (3 - (lg_sl ([.ref (g.2.2 0), .int x1, .int x2])).length) Slot.unset).toArray = ls at hl ⊢
  have hl : lv_has ls 3 [(0, .ref (g.2.2 0)), (1, .int x1), (2, .int x2)] := hl
  obtain ⟨H, hH⟩ : ∃ H, H = s.heap := ⟨_, rfl⟩
  have hP : va_P g.1 vwCl (wX g σ) H := by rw [hH]; exact hP
  have hS : va_S (AX g s.heap.size) s.heap H [] := by rw [hH]; exact hS
  refine wH hH ?_
  obtain ⟨locs, hlo⟩ : ∃ locs : List Loc, locs = [] := ⟨_, rfl⟩
  rw [← hlo] at hS
  refine wL hlo ?_
  unfold D_X11_seen at hD
  refine lv_iload_n C.1 C.2.1 dX11_seen_0 rfl (lv_at hl 1 rfl) ?_
  refine lv_if_lt (tgt := 15) C.1 C.2.1 dX11_seen_1 (by decide) (fun c1 => ?_) (fun c1 => ?_)
  · have hD := b_t c1 hD
    refine lv_bipush (v := (-101 : Int32)) C.1 C.2.1 dX11_seen_15 (by decide) ?_
    cases hD
    exact ri_X C hr hP hS dX11_seen_17
  · have hD := b_f c1 hD
    refine lv_iload_n C.1 C.2.1 dX11_seen_4 rfl (lv_at hl 1 rfl) ?_
    refine lv_aload_n C.1 C.2.1 dX11_seen_5 rfl (lv_at hl 0 rfl) ?_
    refine gf_X11_42_0 C hP dX11_seen_6 ?_
    refine gf_X11_125_10 C hP dX11_seen_9 ?_
    refine lv_icmp_lt (tgt := 18) C.1 C.2.1 dX11_seen_12 (by decide) (fun c2 => ?_) (fun c2 => ?_)
    · have hD := b_t c2 hD
      refine lv_iload_n C.1 C.2.1 dX11_seen_18 rfl (lv_at hl 2 rfl) ?_
      by_cases c3 : x2 = (0 : Int32)
      · have hD := b_t c3 hD
        refine lv_tableIn (off := 25) (tgt := 44) C.1 C.2.1 dX11_seen_19 (by rw [c3]; decide) (by rw [c3]; decide) (by rw [c3]; rfl) (by decide) ?_
        refine lv_aload_n C.1 C.2.1 dX11_seen_44 rfl (lv_at hl 0 rfl) ?_
        refine gf_X11_42_0 C hP dX11_seen_45 ?_
        refine gf_X11_178_10 C hP dX11_seen_48 ?_
        refine lv_iload_n C.1 C.2.1 dX11_seen_51 rfl (lv_at hl 1 rfl) ?_
        obtain ⟨hi4, hD⟩ := gi_some hD
        refine iaX C hP 12 rfl hi4 dX11_seen_52 ?_
        cases hD
        exact ri_X C hr hP hS dX11_seen_53
      · have hD := b_f c3 hD
        by_cases c5 : x2 = (1 : Int32)
        · have hD := b_t c5 hD
          refine lv_tableIn (off := 35) (tgt := 54) C.1 C.2.1 dX11_seen_19 (by rw [c5]; decide) (by rw [c5]; decide) (by rw [c5]; rfl) (by decide) ?_
          refine lv_aload_n C.1 C.2.1 dX11_seen_54 rfl (lv_at hl 0 rfl) ?_
          refine gf_X11_42_0 C hP dX11_seen_55 ?_
          refine gf_X11_181_10 C hP dX11_seen_58 ?_
          refine lv_iload_n C.1 C.2.1 dX11_seen_61 rfl (lv_at hl 1 rfl) ?_
          obtain ⟨hi6, hD⟩ := gi_some hD
          refine iaX C hP 13 rfl hi6 dX11_seen_62 ?_
          cases hD
          exact ri_X C hr hP hS dX11_seen_63
        · have hD := b_f c5 hD
          by_cases c7 : x2 = (2 : Int32)
          · have hD := b_t c7 hD
            refine lv_tableIn (off := 45) (tgt := 64) C.1 C.2.1 dX11_seen_19 (by rw [c7]; decide) (by rw [c7]; decide) (by rw [c7]; rfl) (by decide) ?_
            refine lv_aload_n C.1 C.2.1 dX11_seen_64 rfl (lv_at hl 0 rfl) ?_
            refine gf_X11_42_0 C hP dX11_seen_65 ?_
            refine gf_X11_184_10 C hP dX11_seen_68 ?_
            refine lv_iload_n C.1 C.2.1 dX11_seen_71 rfl (lv_at hl 1 rfl) ?_
            obtain ⟨hi8, hD⟩ := gi_some hD
            refine iaX C hP 14 rfl hi8 dX11_seen_72 ?_
            cases hD
            exact ri_X C hr hP hS dX11_seen_73
          · have hD := b_f c7 hD
            refine lv_tableOut (tgt := 74) C.1 C.2.1 dX11_seen_19 (by have q3 := lv_neT c3 (a := 0) (by decide); have q5 := lv_neT c5 (a := 1) (by decide); have q7 := lv_neT c7 (a := 2) (by decide); omega) (by decide) ?_
            refine lv_bipush (v := (-102 : Int32)) C.1 C.2.1 dX11_seen_74 (by decide) ?_
            cases hD
            exact ri_X C hr hP hS dX11_seen_76
    · have hD := b_f c2 hD
      refine lv_bipush (v := (-101 : Int32)) C.1 C.2.1 dX11_seen_15 (by decide) ?_
      cases hD
      exact ri_X C hr hP hS dX11_seen_17
abbrev rm_X11_left : Room := { frames := 5, cells := 0, slots := 0, locals := 112 }
set_option maxHeartbeats 4000000 in
set_option maxRecDepth 100000 in
theorem c_X11_left (l : Launch) (g : Gx) (sz : Nat) (N : Nat) (σ : St) {r : Int32} {u : St} (hD : D_X11_left N σ = some (r, u)) : Met l yX11_left (Cond.code yX11_left cX11_left 1 (some .int) :: tb) rm_X11_left (PcX g [.ref (g.2.2 0)] σ sz) (QiX g (AX g sz) r u) 0 0 (AX g sz) := by
  refine Met.ofW (cc := cX11_left) (maxL := 1) (ret := some .int) (by decide) rfl ?_
  intro p e s m args below meth c s₁ B hml hv
  have hv0 := hv
  obtain ⟨rfl, hsz, hP, -⟩ := hv
  subst hsz
  have C : CX g (AX g s.heap.size) p s m _ meth c cX11_left 1 RX11 := CX.of B hml (fun w h => List.mem_cons_of_mem _ h) rfl hv0
  have hr := B.returns
  have hS : va_S (AX g s.heap.size) s.heap s.heap [] := va_S.rf
  have hl := lv_entry ([.ref (g.2.2 0)]) (n := 1) (Nat.le_of_ble_eq_true rfl)
  rw [lg_entry_eq]
  generalize (lg_sl ([.ref (g.2.2 0)]) ++ List.replicate (1 - (lg_sl ([.ref (g.2.2 0)])).length) Slot.unset).toArray = ls at hl ⊢
  have hl : lv_has ls 1 [(0, .ref (g.2.2 0))] := hl
  obtain ⟨H, hH⟩ : ∃ H, H = s.heap := ⟨_, rfl⟩
  have hP : va_P g.1 vwCl (wX g σ) H := by rw [hH]; exact hP
  have hS : va_S (AX g s.heap.size) s.heap H [] := by rw [hH]; exact hS
  refine wH hH ?_
  obtain ⟨locs, hlo⟩ : ∃ locs : List Loc, locs = [] := ⟨_, rfl⟩
  rw [← hlo] at hS
  refine wL hlo ?_
  unfold D_X11_left at hD
  refine lv_aload_n C.1 C.2.1 dX11_left_0 rfl (lv_at hl 0 rfl) ?_
  obtain ⟨r1, hd1, hD⟩ := bp_some hD
  refine kVi_X (As := []) (rest := []) (ci := 11) (q0 := 0) C (c_X11_isGameOn l g H.size σ hd1) kw_X11_193 ⟨rfl, rfl⟩ ⟨Nat.le_of_ble_eq_true rfl, Nat.le_of_ble_eq_true rfl⟩ kv_X11_isGameOn rfl rfl rfl hl.1 (Nat.le_of_ble_eq_true rfl) ⟨Nat.zero_le _, Nat.zero_le _⟩ dX11_left_1 hP hS rfl (fun H locs hP hS => ?_)
  refine lv_if_eq (tgt := 14) C.1 C.2.1 dX11_left_4 (by decide) (fun c2 => ?_) (fun c2 => ?_)
  · have hD := b_t c2 hD
    refine lv_bipush (v := (-103 : Int32)) C.1 C.2.1 dX11_left_14 (by decide) ?_
    cases hD
    exact ri_X C hr hP hS dX11_left_16
  · have hD := b_f c2 hD
    refine lv_aload_n C.1 C.2.1 dX11_left_7 rfl (lv_at hl 0 rfl) ?_
    obtain ⟨r3, s3, hd3, hD⟩ := bs_some hD
    refine kVi_X (As := []) (rest := []) (ci := 11) (q0 := 0) C (c_X11_gatherFitting l g H.size N σ hd3) kw_X11_190 ⟨rfl, rfl⟩ ⟨Nat.le_of_ble_eq_true rfl, Nat.le_of_ble_eq_true rfl⟩ kv_X11_gatherFitting rfl rfl rfl hl.1 (Nat.le_of_ble_eq_true rfl) ⟨Nat.zero_le _, Nat.zero_le _⟩ dX11_left_8 hP hS rfl (fun H locs hP hS => ?_)
    refine lv_goto (tgt := 16) C.1 C.2.1 dX11_left_11 (by decide) ?_
    cases hD
    exact ri_X C hr hP hS dX11_left_16
abbrev rm_X11_fits : Room := { frames := 5, cells := 0, slots := 0, locals := 112 }
set_option maxHeartbeats 4000000 in
set_option maxRecDepth 100000 in
theorem c_X11_fits (l : Launch) (g : Gx) (sz : Nat) (N : Nat) (σ : St) (x1 : Int32) {r : Int32} {u : St} (hD : D_X11_fits N σ x1 = some (r, u)) : Met l yX11_fits (Cond.code yX11_fits cX11_fits 2 (some .int) :: tb) rm_X11_fits (PcX g [.ref (g.2.2 0), .int x1] σ sz) (QiX g (AX g sz) r u) 0 0 (AX g sz) := by
  refine Met.ofW (cc := cX11_fits) (maxL := 2) (ret := some .int) (by decide) rfl ?_
  intro p e s m args below meth c s₁ B hml hv
  have hv0 := hv
  obtain ⟨rfl, hsz, hP, -⟩ := hv
  subst hsz
  have C : CX g (AX g s.heap.size) p s m _ meth c cX11_fits 2 RX11 := CX.of B hml (fun w h => List.mem_cons_of_mem _ h) rfl hv0
  have hr := B.returns
  have hS : va_S (AX g s.heap.size) s.heap s.heap [] := va_S.rf
  have hl := lv_entry ([.ref (g.2.2 0), .int x1]) (n := 2) (Nat.le_of_ble_eq_true rfl)
  rw [lg_entry_eq]
  generalize (lg_sl ([.ref (g.2.2 0), .int x1]) ++ List.replicate (2 - (lg_sl ([.ref (g.2.2 0), .int x1])).length) Slot.unset).toArray = ls at hl ⊢
  have hl : lv_has ls 2 [(0, .ref (g.2.2 0)), (1, .int x1)] := hl
  obtain ⟨H, hH⟩ : ∃ H, H = s.heap := ⟨_, rfl⟩
  have hP : va_P g.1 vwCl (wX g σ) H := by rw [hH]; exact hP
  have hS : va_S (AX g s.heap.size) s.heap H [] := by rw [hH]; exact hS
  refine wH hH ?_
  obtain ⟨locs, hlo⟩ : ∃ locs : List Loc, locs = [] := ⟨_, rfl⟩
  rw [← hlo] at hS
  refine wL hlo ?_
  unfold D_X11_fits at hD
  refine lv_iload_n C.1 C.2.1 dX11_fits_0 rfl (lv_at hl 1 rfl) ?_
  refine lv_if_ge (tgt := 7) C.1 C.2.1 dX11_fits_1 (by decide) (fun c1 => ?_) (fun c1 => ?_)
  · have hD := b_t c1 hD
    refine lv_aload_n C.1 C.2.1 dX11_fits_7 rfl (lv_at hl 0 rfl) ?_
    obtain ⟨r2, hd2, hD⟩ := bp_some hD
    refine kVi_X (As := []) (rest := []) (ci := 11) (q0 := 0) C (c_X11_isGameOn l g H.size σ hd2) kw_X11_193 ⟨rfl, rfl⟩ ⟨Nat.le_of_ble_eq_true rfl, Nat.le_of_ble_eq_true rfl⟩ kv_X11_isGameOn rfl rfl rfl hl.1 (Nat.le_of_ble_eq_true rfl) ⟨Nat.zero_le _, Nat.zero_le _⟩ dX11_fits_8 hP hS rfl (fun H locs hP hS => ?_)
    refine lv_if_ne (tgt := 17) C.1 C.2.1 dX11_fits_11 (by decide) (fun c3 => ?_) (fun c3 => ?_)
    · have hD := b_f c3 hD
      refine lv_iload_n C.1 C.2.1 dX11_fits_17 rfl (lv_at hl 1 rfl) ?_
      refine lv_aload_n C.1 C.2.1 dX11_fits_18 rfl (lv_at hl 0 rfl) ?_
      obtain ⟨r4, s4, hd4, hD⟩ := bs_some hD
      refine kVi_X (As := []) (rest := [.int x1]) (ci := 11) (q0 := 0) C (c_X11_gatherFitting l g H.size N σ hd4) kw_X11_190 ⟨rfl, rfl⟩ ⟨Nat.le_of_ble_eq_true rfl, Nat.le_of_ble_eq_true rfl⟩ kv_X11_gatherFitting rfl rfl rfl hl.1 (Nat.le_of_ble_eq_true rfl) ⟨Nat.zero_le _, Nat.zero_le _⟩ dX11_fits_19 hP hS rfl (fun H locs hP hS => ?_)
      refine lv_icmp_ge (tgt := 37) C.1 C.2.1 dX11_fits_22 (by decide) (fun c5 => ?_) (fun c5 => ?_)
      · have hD := b_t c5 hD
        refine lv_iconst (v := (-1 : Int32)) C.1 C.2.1 dX11_fits_37 (by decide) ?_
        cases hD
        exact ri_X C hr hP hS dX11_fits_38
      · have hD := b_f c5 hD
        refine lv_aload_n C.1 C.2.1 dX11_fits_25 rfl (lv_at hl 0 rfl) ?_
        refine gf_X11_61_0 C hP dX11_fits_26 ?_
        refine gf_X11_196_24 C hP dX11_fits_29 ?_
        refine lv_iload_n C.1 C.2.1 dX11_fits_32 rfl (lv_at hl 1 rfl) ?_
        obtain ⟨hi6, hD⟩ := gi_some hD
        refine iaX C hP 25 rfl hi6 dX11_fits_33 ?_
        refine lv_goto (tgt := 38) C.1 C.2.1 dX11_fits_34 (by decide) ?_
        cases hD
        exact ri_X C hr hP hS dX11_fits_38
    · have hD := b_t c3 hD
      refine lv_bipush (v := (-103 : Int32)) C.1 C.2.1 dX11_fits_14 (by decide) ?_
      cases hD
      exact ri_X C hr hP hS dX11_fits_16
  · have hD := b_f c1 hD
    refine lv_bipush (v := (-102 : Int32)) C.1 C.2.1 dX11_fits_4 (by decide) ?_
    cases hD
    exact ri_X C hr hP hS dX11_fits_6
abbrev rm_X11_digest : Room := { frames := 6, cells := 0, slots := 0, locals := 141 }
set_option maxHeartbeats 4000000 in
set_option maxRecDepth 100000 in
theorem w_L_X11_digest_174 (C : CX g A p s m args meth c cX11_digest 5 RX11) (hr : meth.sig.returnType = some .long) (N : Nat) {r : Int64} {u : St} : ∀ (n : Nat) (y1 : Int64) (x3 : Int32) (σ : St) (H : Heap) (locs : List Loc) (ls : Array Slot), lv_has ls 5 [(0, .ref (g.2.2 0)), (1, .long y1), (3, .int x3)] → va_P g.1 vwCl (wX g σ) H → va_S A s.heap H locs → L_X11_digest_174 N n y1 x3 σ = some (r, u) → W p l e rm_X11_digest s m args below meth c H locs 0 0 (MQ below (QlX g A r u) args s 0 0 A) (F0 m 174 ls []) := by
  intro n
  induction n with
  | zero =>
    intro y1 x3 σ H locs ls hl hP hS hD
    rw [L_X11_digest_174] at hD
    cases hD
  | succ n ih =>
    intro y1 x3 σ H locs ls hl hP hS hD
    rw [L_X11_digest_174] at hD
    refine lv_iload_n C.1 C.2.1 dX11_digest_174 rfl (lv_at hl 2 rfl) ?_
    refine lv_bipush (v := (11 : Int32)) C.1 C.2.1 dX11_digest_175 (by decide) ?_
    refine lv_icmp_ge (tgt := 196) C.1 C.2.1 dX11_digest_177 (by decide) (fun c6 => ?_) (fun c6 => ?_)
    · have hD := b_t c6 hD
      refine lv_lload_n C.1 C.2.1 dX11_digest_196 rfl (lv_at hl 1 rfl) ?_
      cases hD
      exact rl_X C hr hP hS dX11_digest_197
    · have hD := b_f c6 hD
      refine lv_lload_n C.1 C.2.1 dX11_digest_180 rfl (lv_at hl 1 rfl) ?_
      refine lv_aload_n C.1 C.2.1 dX11_digest_181 rfl (lv_at hl 0 rfl) ?_
      refine lv_iload_n C.1 C.2.1 dX11_digest_182 rfl (lv_at hl 2 rfl) ?_
      obtain ⟨r7, hd7, hD⟩ := bp_some hD
      refine kVi_X (As := [.int x3]) (rest := [.long y1]) (ci := 11) (q0 := 0) C (c_X11_count l g H.size σ x3 hd7) kw_X11_290 ⟨rfl, rfl⟩ ⟨Nat.le_of_ble_eq_true rfl, Nat.le_of_ble_eq_true rfl⟩ kv_X11_count rfl rfl rfl hl.1 (Nat.le_of_ble_eq_true rfl) ⟨Nat.zero_le _, Nat.zero_le _⟩ dX11_digest_183 hP hS rfl (fun H locs hP hS => ?_)
      obtain ⟨r8, hd8, hD⟩ := bp_some hD
      refine kSl_X (As := [.long y1, .int r7]) (rest := []) C (c_X11_with l g H.size σ y1 r7 hd8) kw_X11_270 ⟨rfl, rfl⟩ ⟨Nat.le_of_ble_eq_true rfl, Nat.le_of_ble_eq_true rfl⟩ ks_X11_with rfl hl.1 (Nat.le_of_ble_eq_true rfl) ⟨Nat.zero_le _, Nat.zero_le _⟩ dX11_digest_186 hP hS rfl (fun H locs hP hS => ?_)
      refine lv_lstore_n (lv' := [(1, .long r8), (0, .ref (g.2.2 0)), (3, .int x3)]) C.1 C.2.1 dX11_digest_189 rfl hl (by decide) rfl (fun ls hl => ?_)
      refine lv_iinc (v := x3 + (1 : Int32)) (lv' := [(3, .int (x3 + (1 : Int32))), (1, .long r8), (0, .ref (g.2.2 0))]) C.1 C.2.1 dX11_digest_190 hl (k := 2) rfl rfl (by decide) rfl (fun ls hl => ?_)
      refine lv_goto (tgt := 174) C.1 C.2.1 dX11_digest_193 (by decide) ?_
      exact ih r8 (x3 + (1 : Int32)) σ H locs ls (lv_sub hl [2, 1, 0] rfl) hP hS hD
set_option maxHeartbeats 4000000 in
set_option maxRecDepth 100000 in
theorem w_L_X11_digest_141 (C : CX g A p s m args meth c cX11_digest 5 RX11) (hr : meth.sig.returnType = some .long) (N : Nat) {r : Int64} {u : St} : ∀ (n : Nat) (y1 : Int64) (x3 : Int32) (σ : St) (H : Heap) (locs : List Loc) (ls : Array Slot), lv_has ls 5 [(0, .ref (g.2.2 0)), (1, .long y1), (3, .int x3)] → va_P g.1 vwCl (wX g σ) H → va_S A s.heap H locs → L_X11_digest_141 N n y1 x3 σ = some (r, u) → W p l e rm_X11_digest s m args below meth c H locs 0 0 (MQ below (QlX g A r u) args s 0 0 A) (F0 m 141 ls []) := by
  intro n
  induction n with
  | zero =>
    intro y1 x3 σ H locs ls hl hP hS hD
    rw [L_X11_digest_141] at hD
    cases hD
  | succ n ih =>
    intro y1 x3 σ H locs ls hl hP hS hD
    rw [L_X11_digest_141] at hD
    refine lv_iload_n C.1 C.2.1 dX11_digest_141 rfl (lv_at hl 2 rfl) ?_
    refine lv_aload_n C.1 C.2.1 dX11_digest_142 rfl (lv_at hl 0 rfl) ?_
    refine gf_X11_12_0 C hP dX11_digest_143 ?_
    refine gf_X11_81_1 C hP dX11_digest_146 ?_
    refine lv_icmp_ge (tgt := 172) C.1 C.2.1 dX11_digest_149 (by decide) (fun c5 => ?_) (fun c5 => ?_)
    · have hD := b_t c5 hD
      refine lv_iconst (v := (0 : Int32)) C.1 C.2.1 dX11_digest_172 (by decide) ?_
      refine lv_istore_n (lv' := [(3, .int (0 : Int32)), (0, .ref (g.2.2 0)), (1, .long y1)]) C.1 C.2.1 dX11_digest_173 rfl hl (by decide) rfl (fun ls hl => ?_)
      exact w_L_X11_digest_174 C hr N N y1 (0 : Int32) σ H locs ls (lv_sub hl [1, 2, 0] rfl) hP hS hD
    · have hD := b_f c5 hD
      refine lv_lload_n C.1 C.2.1 dX11_digest_152 rfl (lv_at hl 1 rfl) ?_
      refine lv_aload_n C.1 C.2.1 dX11_digest_153 rfl (lv_at hl 0 rfl) ?_
      refine gf_X11_12_0 C hP dX11_digest_154 ?_
      refine gf_X11_287_1 C hP dX11_digest_157 ?_
      refine lv_iload_n C.1 C.2.1 dX11_digest_160 rfl (lv_at hl 2 rfl) ?_
      obtain ⟨hi9, hD⟩ := gi_some hD
      refine iaX C hP 2 rfl hi9 dX11_digest_161 ?_
      obtain ⟨r10, hd10, hD⟩ := bp_some hD
      refine kSl_X (As := [.long y1, .int (σ 2 x3.toNatClampNeg)]) (rest := []) C (c_X11_with l g H.size σ y1 (σ 2 x3.toNatClampNeg) hd10) kw_X11_270 ⟨rfl, rfl⟩ ⟨Nat.le_of_ble_eq_true rfl, Nat.le_of_ble_eq_true rfl⟩ ks_X11_with rfl hl.1 (Nat.le_of_ble_eq_true rfl) ⟨Nat.zero_le _, Nat.zero_le _⟩ dX11_digest_162 hP hS rfl (fun H locs hP hS => ?_)
      refine lv_lstore_n (lv' := [(1, .long r10), (0, .ref (g.2.2 0)), (3, .int x3)]) C.1 C.2.1 dX11_digest_165 rfl hl (by decide) rfl (fun ls hl => ?_)
      refine lv_iinc (v := x3 + (1 : Int32)) (lv' := [(3, .int (x3 + (1 : Int32))), (1, .long r10), (0, .ref (g.2.2 0))]) C.1 C.2.1 dX11_digest_166 hl (k := 2) rfl rfl (by decide) rfl (fun ls hl => ?_)
      refine lv_goto (tgt := 141) C.1 C.2.1 dX11_digest_169 (by decide) ?_
      exact ih r10 (x3 + (1 : Int32)) σ H locs ls (lv_sub hl [2, 1, 0] rfl) hP hS hD
set_option maxHeartbeats 4000000 in
set_option maxRecDepth 100000 in
theorem w_L_X11_digest_85 (C : CX g A p s m args meth c cX11_digest 5 RX11) (hr : meth.sig.returnType = some .long) (N : Nat) {r : Int64} {u : St} (kc71 : Int64 → Int32 → St → Option (Int64 × St)) (x3 : Int32) (hk71 : ∀ (y1 : Int64) (x3 : Int32) (σ : St) (H : Heap) (locs : List Loc) (ls : Array Slot), lv_has ls 5 [(0, .ref (g.2.2 0)), (1, .long y1), (3, .int x3)] → va_P g.1 vwCl (wX g σ) H → va_S A s.heap H locs → kc71 y1 x3 σ = some (r, u) → W p l e rm_X11_digest s m args below meth c H locs 0 0 (MQ below (QlX g A r u) args s 0 0 A) (F0 m 71 ls [])) : ∀ (n : Nat) (y1 : Int64) (x4 : Int32) (σ : St) (H : Heap) (locs : List Loc) (ls : Array Slot), lv_has ls 5 [(0, .ref (g.2.2 0)), (1, .long y1), (3, .int x3), (4, .int x4)] → va_P g.1 vwCl (wX g σ) H → va_S A s.heap H locs → L_X11_digest_85 N kc71 x3 n y1 x4 σ = some (r, u) → W p l e rm_X11_digest s m args below meth c H locs 0 0 (MQ below (QlX g A r u) args s 0 0 A) (F0 m 85 ls []) := by
  intro n
  induction n with
  | zero =>
    intro y1 x4 σ H locs ls hl hP hS hD
    rw [L_X11_digest_85] at hD
    cases hD
  | succ n ih =>
    intro y1 x4 σ H locs ls hl hP hS hD
    rw [L_X11_digest_85] at hD
    refine lv_iload C.1 C.2.1 dX11_digest_85 (lv_at hl 3 rfl) ?_
    refine lv_iconst (v := (3 : Int32)) C.1 C.2.1 dX11_digest_87 (by decide) ?_
    refine lv_icmp_ge (tgt := 109) C.1 C.2.1 dX11_digest_88 (by decide) (fun c15 => ?_) (fun c15 => ?_)
    · have hD := b_t c15 hD
      refine lv_iinc (v := x3 + (1 : Int32)) (lv' := [(3, .int (x3 + (1 : Int32))), (0, .ref (g.2.2 0)), (1, .long y1), (4, .int x4)]) C.1 C.2.1 dX11_digest_109 hl (k := 2) rfl rfl (by decide) rfl (fun ls hl => ?_)
      refine lv_goto (tgt := 71) C.1 C.2.1 dX11_digest_112 (by decide) ?_
      exact hk71 y1 (x3 + (1 : Int32)) σ H locs ls (lv_sub hl [1, 2, 0] rfl) hP hS hD
    · have hD := b_f c15 hD
      refine lv_lload_n C.1 C.2.1 dX11_digest_91 rfl (lv_at hl 1 rfl) ?_
      refine lv_aload_n C.1 C.2.1 dX11_digest_92 rfl (lv_at hl 0 rfl) ?_
      refine lv_iload_n C.1 C.2.1 dX11_digest_93 rfl (lv_at hl 2 rfl) ?_
      refine lv_iload C.1 C.2.1 dX11_digest_94 (lv_at hl 3 rfl) ?_
      obtain ⟨r16, hd16, hD⟩ := bp_some hD
      refine kVi_X (As := [.int x3, .int x4]) (rest := [.long y1]) (ci := 11) (q0 := 0) C (c_X11_seen l g H.size σ x3 x4 hd16) kw_X11_278 ⟨rfl, rfl⟩ ⟨Nat.le_of_ble_eq_true rfl, Nat.le_of_ble_eq_true rfl⟩ kv_X11_seen rfl rfl rfl hl.1 (Nat.le_of_ble_eq_true rfl) ⟨Nat.zero_le _, Nat.zero_le _⟩ dX11_digest_96 hP hS rfl (fun H locs hP hS => ?_)
      obtain ⟨r17, hd17, hD⟩ := bp_some hD
      refine kSl_X (As := [.long y1, .int r16]) (rest := []) C (c_X11_with l g H.size σ y1 r16 hd17) kw_X11_270 ⟨rfl, rfl⟩ ⟨Nat.le_of_ble_eq_true rfl, Nat.le_of_ble_eq_true rfl⟩ ks_X11_with rfl hl.1 (Nat.le_of_ble_eq_true rfl) ⟨Nat.zero_le _, Nat.zero_le _⟩ dX11_digest_99 hP hS rfl (fun H locs hP hS => ?_)
      refine lv_lstore_n (lv' := [(1, .long r17), (0, .ref (g.2.2 0)), (3, .int x3), (4, .int x4)]) C.1 C.2.1 dX11_digest_102 rfl hl (by decide) rfl (fun ls hl => ?_)
      refine lv_iinc (v := x4 + (1 : Int32)) (lv' := [(4, .int (x4 + (1 : Int32))), (1, .long r17), (0, .ref (g.2.2 0)), (3, .int x3)]) C.1 C.2.1 dX11_digest_103 hl (k := 3) rfl rfl (by decide) rfl (fun ls hl => ?_)
      refine lv_goto (tgt := 85) C.1 C.2.1 dX11_digest_106 (by decide) ?_
      exact ih r17 (x4 + (1 : Int32)) σ H locs ls (lv_sub hl [2, 1, 3, 0] rfl) hP hS hD
set_option maxHeartbeats 4000000 in
set_option maxRecDepth 100000 in
theorem w_L_X11_digest_71 (C : CX g A p s m args meth c cX11_digest 5 RX11) (hr : meth.sig.returnType = some .long) (N : Nat) {r : Int64} {u : St} : ∀ (n : Nat) (y1 : Int64) (x3 : Int32) (σ : St) (H : Heap) (locs : List Loc) (ls : Array Slot), lv_has ls 5 [(0, .ref (g.2.2 0)), (1, .long y1), (3, .int x3)] → va_P g.1 vwCl (wX g σ) H → va_S A s.heap H locs → L_X11_digest_71 N n y1 x3 σ = some (r, u) → W p l e rm_X11_digest s m args below meth c H locs 0 0 (MQ below (QlX g A r u) args s 0 0 A) (F0 m 71 ls []) := by
  intro n
  induction n with
  | zero =>
    intro y1 x3 σ H locs ls hl hP hS hD
    rw [L_X11_digest_71] at hD
    cases hD
  | succ n ih =>
    intro y1 x3 σ H locs ls hl hP hS hD
    rw [L_X11_digest_71] at hD
    refine lv_iload_n C.1 C.2.1 dX11_digest_71 rfl (lv_at hl 2 rfl) ?_
    refine lv_aload_n C.1 C.2.1 dX11_digest_72 rfl (lv_at hl 0 rfl) ?_
    refine gf_X11_42_0 C hP dX11_digest_73 ?_
    refine gf_X11_125_10 C hP dX11_digest_76 ?_
    refine lv_icmp_ge (tgt := 115) C.1 C.2.1 dX11_digest_79 (by decide) (fun c2 => ?_) (fun c2 => ?_)
    · have hD := b_t c2 hD
      refine lv_aload_n C.1 C.2.1 dX11_digest_115 rfl (lv_at hl 0 rfl) ?_
      obtain ⟨r3, hd3, hD⟩ := bp_some hD
      refine kVi_X (As := []) (rest := []) (ci := 11) (q0 := 0) C (c_X11_isGameOn l g H.size σ hd3) kw_X11_193 ⟨rfl, rfl⟩ ⟨Nat.le_of_ble_eq_true rfl, Nat.le_of_ble_eq_true rfl⟩ kv_X11_isGameOn rfl rfl rfl hl.1 (Nat.le_of_ble_eq_true rfl) ⟨Nat.zero_le _, Nat.zero_le _⟩ dX11_digest_116 hP hS rfl (fun H locs hP hS => ?_)
      refine lv_if_eq (tgt := 139) C.1 C.2.1 dX11_digest_119 (by decide) (fun c4 => ?_) (fun c4 => ?_)
      · have hD := b_t c4 hD
        refine lv_iconst (v := (0 : Int32)) C.1 C.2.1 dX11_digest_139 (by decide) ?_
        refine lv_istore_n (lv' := [(3, .int (0 : Int32)), (0, .ref (g.2.2 0)), (1, .long y1)]) C.1 C.2.1 dX11_digest_140 rfl hl (by decide) rfl (fun ls hl => ?_)
        exact w_L_X11_digest_141 C hr N N y1 (0 : Int32) σ H locs ls (lv_sub hl [1, 2, 0] rfl) hP hS hD
      · have hD := b_f c4 hD
        refine lv_lload_n C.1 C.2.1 dX11_digest_122 rfl (lv_at hl 1 rfl) ?_
        refine lv_aload_n C.1 C.2.1 dX11_digest_123 rfl (lv_at hl 0 rfl) ?_
        obtain ⟨r11, s11, hd11, hD⟩ := bs_some hD
        refine kVi_X (As := []) (rest := [.long y1]) (ci := 11) (q0 := 0) C (c_X11_left l g H.size N σ hd11) kw_X11_281 ⟨rfl, rfl⟩ ⟨Nat.le_of_ble_eq_true rfl, Nat.le_of_ble_eq_true rfl⟩ kv_X11_left rfl rfl rfl hl.1 (Nat.le_of_ble_eq_true rfl) ⟨Nat.zero_le _, Nat.zero_le _⟩ dX11_digest_124 hP hS rfl (fun H locs hP hS => ?_)
        obtain ⟨r12, hd12, hD⟩ := bp_some hD
        refine kSl_X (As := [.long y1, .int r11]) (rest := []) C (c_X11_with l g H.size s11 y1 r11 hd12) kw_X11_270 ⟨rfl, rfl⟩ ⟨Nat.le_of_ble_eq_true rfl, Nat.le_of_ble_eq_true rfl⟩ ks_X11_with rfl hl.1 (Nat.le_of_ble_eq_true rfl) ⟨Nat.zero_le _, Nat.zero_le _⟩ dX11_digest_127 hP hS rfl (fun H locs hP hS => ?_)
        refine lv_aload_n C.1 C.2.1 dX11_digest_130 rfl (lv_at hl 0 rfl) ?_
        refine lv_iconst (v := (0 : Int32)) C.1 C.2.1 dX11_digest_131 (by decide) ?_
        obtain ⟨r13, s13, hd13, hD⟩ := bs_some hD
        refine kVi_X (As := [.int (0 : Int32)]) (rest := [.long r12]) (ci := 11) (q0 := 0) C (c_X11_fits l g H.size N s11 (0 : Int32) hd13) kw_X11_284 ⟨rfl, rfl⟩ ⟨Nat.le_of_ble_eq_true rfl, Nat.le_of_ble_eq_true rfl⟩ kv_X11_fits rfl rfl rfl hl.1 (Nat.le_of_ble_eq_true rfl) ⟨Nat.zero_le _, Nat.zero_le _⟩ dX11_digest_132 hP hS rfl (fun H locs hP hS => ?_)
        obtain ⟨r14, hd14, hD⟩ := bp_some hD
        refine kSl_X (As := [.long r12, .int r13]) (rest := []) C (c_X11_with l g H.size s13 r12 r13 hd14) kw_X11_270 ⟨rfl, rfl⟩ ⟨Nat.le_of_ble_eq_true rfl, Nat.le_of_ble_eq_true rfl⟩ ks_X11_with rfl hl.1 (Nat.le_of_ble_eq_true rfl) ⟨Nat.zero_le _, Nat.zero_le _⟩ dX11_digest_135 hP hS rfl (fun H locs hP hS => ?_)
        refine lv_lstore_n (lv' := [(1, .long r14), (0, .ref (g.2.2 0)), (3, .int x3)]) C.1 C.2.1 dX11_digest_138 rfl hl (by decide) rfl (fun ls hl => ?_)
        refine lv_iconst (v := (0 : Int32)) C.1 C.2.1 dX11_digest_139 (by decide) ?_
        refine lv_istore_n (lv' := [(3, .int (0 : Int32)), (1, .long r14), (0, .ref (g.2.2 0))]) C.1 C.2.1 dX11_digest_140 rfl hl (by decide) rfl (fun ls hl => ?_)
        exact w_L_X11_digest_141 C hr N N r14 (0 : Int32) s13 H locs ls (lv_sub hl [2, 1, 0] rfl) hP hS hD
    · have hD := b_f c2 hD
      refine lv_iconst (v := (0 : Int32)) C.1 C.2.1 dX11_digest_82 (by decide) ?_
      refine lv_istore (lv' := [(4, .int (0 : Int32)), (0, .ref (g.2.2 0)), (1, .long y1), (3, .int x3)]) C.1 C.2.1 dX11_digest_83 hl (by decide) rfl (fun ls hl => ?_)
      exact w_L_X11_digest_85 C hr N (L_X11_digest_71 N n) x3 ih N y1 (0 : Int32) σ H locs ls (lv_sub hl [1, 2, 3, 0] rfl) hP hS hD
set_option maxHeartbeats 4000000 in
set_option maxRecDepth 100000 in
theorem w_L_X11_digest_17 (C : CX g A p s m args meth c cX11_digest 5 RX11) (hr : meth.sig.returnType = some .long) (N : Nat) {r : Int64} {u : St} (kc6 : Int64 → Int32 → St → Option (Int64 × St)) (x3 : Int32) (hk6 : ∀ (y1 : Int64) (x3 : Int32) (σ : St) (H : Heap) (locs : List Loc) (ls : Array Slot), lv_has ls 5 [(0, .ref (g.2.2 0)), (1, .long y1), (3, .int x3)] → va_P g.1 vwCl (wX g σ) H → va_S A s.heap H locs → kc6 y1 x3 σ = some (r, u) → W p l e rm_X11_digest s m args below meth c H locs 0 0 (MQ below (QlX g A r u) args s 0 0 A) (F0 m 6 ls [])) : ∀ (n : Nat) (y1 : Int64) (x4 : Int32) (σ : St) (H : Heap) (locs : List Loc) (ls : Array Slot), lv_has ls 5 [(0, .ref (g.2.2 0)), (1, .long y1), (3, .int x3), (4, .int x4)] → va_P g.1 vwCl (wX g σ) H → va_S A s.heap H locs → L_X11_digest_17 N kc6 x3 n y1 x4 σ = some (r, u) → W p l e rm_X11_digest s m args below meth c H locs 0 0 (MQ below (QlX g A r u) args s 0 0 A) (F0 m 17 ls []) := by
  intro n
  induction n with
  | zero =>
    intro y1 x4 σ H locs ls hl hP hS hD
    rw [L_X11_digest_17] at hD
    cases hD
  | succ n ih =>
    intro y1 x4 σ H locs ls hl hP hS hD
    rw [L_X11_digest_17] at hD
    refine lv_iload C.1 C.2.1 dX11_digest_17 (lv_at hl 3 rfl) ?_
    refine lv_iconst (v := (4 : Int32)) C.1 C.2.1 dX11_digest_19 (by decide) ?_
    refine lv_icmp_ge (tgt := 41) C.1 C.2.1 dX11_digest_20 (by decide) (fun c18 => ?_) (fun c18 => ?_)
    · have hD := b_t c18 hD
      refine lv_lload_n C.1 C.2.1 dX11_digest_41 rfl (lv_at hl 1 rfl) ?_
      refine lv_aload_n C.1 C.2.1 dX11_digest_42 rfl (lv_at hl 0 rfl) ?_
      refine lv_iconst (v := (0 : Int32)) C.1 C.2.1 dX11_digest_43 (by decide) ?_
      refine lv_iload_n C.1 C.2.1 dX11_digest_44 rfl (lv_at hl 2 rfl) ?_
      refine lv_iconst (v := (0 : Int32)) C.1 C.2.1 dX11_digest_45 (by decide) ?_
      obtain ⟨r19, s19, hd19, hD⟩ := bs_some hD
      refine kVi_X (As := [.int (0 : Int32), .int x3, .int (0 : Int32)]) (rest := [.long y1]) (ci := 11) (q0 := 0) C (c_X11_rest l g H.size N σ (0 : Int32) x3 (0 : Int32) hd19) kw_X11_274 ⟨rfl, rfl⟩ ⟨Nat.le_of_ble_eq_true rfl, Nat.le_of_ble_eq_true rfl⟩ kv_X11_rest rfl rfl rfl hl.1 (Nat.le_of_ble_eq_true rfl) ⟨Nat.zero_le _, Nat.zero_le _⟩ dX11_digest_46 hP hS rfl (fun H locs hP hS => ?_)
      obtain ⟨r20, hd20, hD⟩ := bp_some hD
      refine kSl_X (As := [.long y1, .int r19]) (rest := []) C (c_X11_with l g H.size s19 y1 r19 hd20) kw_X11_270 ⟨rfl, rfl⟩ ⟨Nat.le_of_ble_eq_true rfl, Nat.le_of_ble_eq_true rfl⟩ ks_X11_with rfl hl.1 (Nat.le_of_ble_eq_true rfl) ⟨Nat.zero_le _, Nat.zero_le _⟩ dX11_digest_49 hP hS rfl (fun H locs hP hS => ?_)
      refine lv_aload_n C.1 C.2.1 dX11_digest_52 rfl (lv_at hl 0 rfl) ?_
      refine lv_iconst (v := (0 : Int32)) C.1 C.2.1 dX11_digest_53 (by decide) ?_
      refine lv_iload_n C.1 C.2.1 dX11_digest_54 rfl (lv_at hl 2 rfl) ?_
      refine lv_iconst (v := (1 : Int32)) C.1 C.2.1 dX11_digest_55 (by decide) ?_
      obtain ⟨r21, s21, hd21, hD⟩ := bs_some hD
      refine kVi_X (As := [.int (0 : Int32), .int x3, .int (1 : Int32)]) (rest := [.long r20]) (ci := 11) (q0 := 0) C (c_X11_rest l g H.size N s19 (0 : Int32) x3 (1 : Int32) hd21) kw_X11_274 ⟨rfl, rfl⟩ ⟨Nat.le_of_ble_eq_true rfl, Nat.le_of_ble_eq_true rfl⟩ kv_X11_rest rfl rfl rfl hl.1 (Nat.le_of_ble_eq_true rfl) ⟨Nat.zero_le _, Nat.zero_le _⟩ dX11_digest_56 hP hS rfl (fun H locs hP hS => ?_)
      obtain ⟨r22, hd22, hD⟩ := bp_some hD
      refine kSl_X (As := [.long r20, .int r21]) (rest := []) C (c_X11_with l g H.size s21 r20 r21 hd22) kw_X11_270 ⟨rfl, rfl⟩ ⟨Nat.le_of_ble_eq_true rfl, Nat.le_of_ble_eq_true rfl⟩ ks_X11_with rfl hl.1 (Nat.le_of_ble_eq_true rfl) ⟨Nat.zero_le _, Nat.zero_le _⟩ dX11_digest_59 hP hS rfl (fun H locs hP hS => ?_)
      refine lv_lstore_n (lv' := [(1, .long r22), (0, .ref (g.2.2 0)), (3, .int x3), (4, .int x4)]) C.1 C.2.1 dX11_digest_62 rfl hl (by decide) rfl (fun ls hl => ?_)
      refine lv_iinc (v := x3 + (1 : Int32)) (lv' := [(3, .int (x3 + (1 : Int32))), (1, .long r22), (0, .ref (g.2.2 0)), (4, .int x4)]) C.1 C.2.1 dX11_digest_63 hl (k := 2) rfl rfl (by decide) rfl (fun ls hl => ?_)
      refine lv_goto (tgt := 6) C.1 C.2.1 dX11_digest_66 (by decide) ?_
      exact hk6 r22 (x3 + (1 : Int32)) s21 H locs ls (lv_sub hl [2, 1, 0] rfl) hP hS hD
    · have hD := b_f c18 hD
      refine lv_lload_n C.1 C.2.1 dX11_digest_23 rfl (lv_at hl 1 rfl) ?_
      refine lv_aload_n C.1 C.2.1 dX11_digest_24 rfl (lv_at hl 0 rfl) ?_
      refine lv_iload_n C.1 C.2.1 dX11_digest_25 rfl (lv_at hl 2 rfl) ?_
      refine lv_iload C.1 C.2.1 dX11_digest_26 (lv_at hl 3 rfl) ?_
      obtain ⟨r23, s23, hd23, hD⟩ := bs_some hD
      refine kVi_X (As := [.int x3, .int x4]) (rest := [.long y1]) (ci := 11) (q0 := 0) C (c_X11_judge l g H.size N σ x3 x4 hd23) kw_X11_267 ⟨rfl, rfl⟩ ⟨Nat.le_of_ble_eq_true rfl, Nat.le_of_ble_eq_true rfl⟩ kv_X11_judge rfl rfl rfl hl.1 (Nat.le_of_ble_eq_true rfl) ⟨Nat.zero_le _, Nat.zero_le _⟩ dX11_digest_28 hP hS rfl (fun H locs hP hS => ?_)
      obtain ⟨r24, hd24, hD⟩ := bp_some hD
      refine kSl_X (As := [.long y1, .int r23]) (rest := []) C (c_X11_with l g H.size s23 y1 r23 hd24) kw_X11_270 ⟨rfl, rfl⟩ ⟨Nat.le_of_ble_eq_true rfl, Nat.le_of_ble_eq_true rfl⟩ ks_X11_with rfl hl.1 (Nat.le_of_ble_eq_true rfl) ⟨Nat.zero_le _, Nat.zero_le _⟩ dX11_digest_31 hP hS rfl (fun H locs hP hS => ?_)
      refine lv_lstore_n (lv' := [(1, .long r24), (0, .ref (g.2.2 0)), (3, .int x3), (4, .int x4)]) C.1 C.2.1 dX11_digest_34 rfl hl (by decide) rfl (fun ls hl => ?_)
      refine lv_iinc (v := x4 + (1 : Int32)) (lv' := [(4, .int (x4 + (1 : Int32))), (1, .long r24), (0, .ref (g.2.2 0)), (3, .int x3)]) C.1 C.2.1 dX11_digest_35 hl (k := 3) rfl rfl (by decide) rfl (fun ls hl => ?_)
      refine lv_goto (tgt := 17) C.1 C.2.1 dX11_digest_38 (by decide) ?_
      exact ih r24 (x4 + (1 : Int32)) s23 H locs ls (lv_sub hl [2, 1, 3, 0] rfl) hP hS hD
set_option maxHeartbeats 4000000 in
set_option maxRecDepth 100000 in
theorem w_L_X11_digest_6 (C : CX g A p s m args meth c cX11_digest 5 RX11) (hr : meth.sig.returnType = some .long) (N : Nat) {r : Int64} {u : St} : ∀ (n : Nat) (y1 : Int64) (x3 : Int32) (σ : St) (H : Heap) (locs : List Loc) (ls : Array Slot), lv_has ls 5 [(0, .ref (g.2.2 0)), (1, .long y1), (3, .int x3)] → va_P g.1 vwCl (wX g σ) H → va_S A s.heap H locs → L_X11_digest_6 N n y1 x3 σ = some (r, u) → W p l e rm_X11_digest s m args below meth c H locs 0 0 (MQ below (QlX g A r u) args s 0 0 A) (F0 m 6 ls []) := by
  intro n
  induction n with
  | zero =>
    intro y1 x3 σ H locs ls hl hP hS hD
    rw [L_X11_digest_6] at hD
    cases hD
  | succ n ih =>
    intro y1 x3 σ H locs ls hl hP hS hD
    rw [L_X11_digest_6] at hD
    refine lv_iload_n C.1 C.2.1 dX11_digest_6 rfl (lv_at hl 2 rfl) ?_
    refine lv_aload_n C.1 C.2.1 dX11_digest_7 rfl (lv_at hl 0 rfl) ?_
    refine gf_X11_110_0 C hP dX11_digest_8 ?_
    refine lv_icmp_ge (tgt := 69) C.1 C.2.1 dX11_digest_11 (by decide) (fun c1 => ?_) (fun c1 => ?_)
    · have hD := b_t c1 hD
      refine lv_iconst (v := (0 : Int32)) C.1 C.2.1 dX11_digest_69 (by decide) ?_
      refine lv_istore_n (lv' := [(3, .int (0 : Int32)), (0, .ref (g.2.2 0)), (1, .long y1)]) C.1 C.2.1 dX11_digest_70 rfl hl (by decide) rfl (fun ls hl => ?_)
      exact w_L_X11_digest_71 C hr N N y1 (0 : Int32) σ H locs ls (lv_sub hl [1, 2, 0] rfl) hP hS hD
    · have hD := b_f c1 hD
      refine lv_iconst (v := (0 : Int32)) C.1 C.2.1 dX11_digest_14 (by decide) ?_
      refine lv_istore (lv' := [(4, .int (0 : Int32)), (0, .ref (g.2.2 0)), (1, .long y1), (3, .int x3)]) C.1 C.2.1 dX11_digest_15 hl (by decide) rfl (fun ls hl => ?_)
      exact w_L_X11_digest_17 C hr N (L_X11_digest_6 N n) x3 ih N y1 (0 : Int32) σ H locs ls (lv_sub hl [1, 2, 3, 0] rfl) hP hS hD
set_option maxHeartbeats 4000000 in
set_option maxRecDepth 100000 in
theorem c_X11_digest (l : Launch) (g : Gx) (sz : Nat) (N : Nat) (σ : St) {r : Int64} {u : St} (hD : D_X11_digest N σ = some (r, u)) : Met l yX11_digest (Cond.code yX11_digest cX11_digest 5 (some .long) :: tb) rm_X11_digest (PcX g [.ref (g.2.2 0)] σ sz) (QlX g (AX g sz) r u) 0 0 (AX g sz) := by
  refine Met.ofW (cc := cX11_digest) (maxL := 5) (ret := some .long) (by decide) rfl ?_
  intro p e s m args below meth c s₁ B hml hv
  have hv0 := hv
  obtain ⟨rfl, hsz, hP, -⟩ := hv
  subst hsz
  have C : CX g (AX g s.heap.size) p s m _ meth c cX11_digest 5 RX11 := CX.of B hml (fun w h => List.mem_cons_of_mem _ h) rfl hv0
  have hr := B.returns
  have hS : va_S (AX g s.heap.size) s.heap s.heap [] := va_S.rf
  have hl := lv_entry ([.ref (g.2.2 0)]) (n := 5) (Nat.le_of_ble_eq_true rfl)
  rw [lg_entry_eq]
  generalize (lg_sl ([.ref (g.2.2 0)]) ++ List.replicate (5 - (lg_sl ([.ref (g.2.2 0)])).length) Slot.unset).toArray = ls at hl ⊢
  have hl : lv_has ls 5 [(0, .ref (g.2.2 0))] := hl
  obtain ⟨H, hH⟩ : ∃ H, H = s.heap := ⟨_, rfl⟩
  have hP : va_P g.1 vwCl (wX g σ) H := by rw [hH]; exact hP
  have hS : va_S (AX g s.heap.size) s.heap H [] := by rw [hH]; exact hS
  refine wH hH ?_
  obtain ⟨locs, hlo⟩ : ∃ locs : List Loc, locs = [] := ⟨_, rfl⟩
  rw [← hlo] at hS
  refine wL hlo ?_
  unfold D_X11_digest at hD
  refine lv_ldc2 (v := (1297 : Int64)) (own := RX11) C.1 C.2.1 C.2.2.2.1 (C.2.2.2.2.1 (.constantLong RX11 265 (1297 : Int64)) (tb_in 763 (by decide +kernel) (by decide +kernel))) dX11_digest_0 ?_
  refine lv_lstore_n (lv' := [(1, .long (1297 : Int64)), (0, .ref (g.2.2 0))]) C.1 C.2.1 dX11_digest_3 rfl hl (by decide) rfl (fun ls hl => ?_)
  refine lv_iconst (v := (0 : Int32)) C.1 C.2.1 dX11_digest_4 (by decide) ?_
  refine lv_istore_n (lv' := [(3, .int (0 : Int32)), (1, .long (1297 : Int64)), (0, .ref (g.2.2 0))]) C.1 C.2.1 dX11_digest_5 rfl hl (by decide) rfl (fun ls hl => ?_)
  exact w_L_X11_digest_6 C hr N N (1297 : Int64) (0 : Int32) σ H locs ls (lv_sub hl [2, 1, 0] rfl) hP hS hD
abbrev rm_X3_kindsEnd : Room := { frames := 0, cells := 0, slots := 0, locals := 0 }
set_option maxHeartbeats 4000000 in
set_option maxRecDepth 100000 in
theorem w_L_X3_kindsEnd_2 (C : CX g A p s m args meth c cX3_kindsEnd 3 RX3) (hr : meth.sig.returnType = some .int) (N : Nat) (σ : St) {r : Int32} (x1 : Int32) : ∀ (n : Nat) (x2 : Int32) (H : Heap) (locs : List Loc) (ls : Array Slot), lv_has ls 3 [(0, .ref (g.2.2 1)), (1, .int x1), (2, .int x2)] → va_P g.1 vwCl (wX g σ) H → va_S A s.heap H locs → L_X3_kindsEnd_2 N σ x1 n x2 = some r → W p l e rm_X3_kindsEnd s m args below meth c H locs 0 0 (MQ below (QiX g A r σ) args s 0 0 A) (F0 m 2 ls []) := by
  intro n
  induction n with
  | zero =>
    intro x2 H locs ls hl hP hS hD
    rw [L_X3_kindsEnd_2] at hD
    cases hD
  | succ n ih =>
    intro x2 H locs ls hl hP hS hD
    rw [L_X3_kindsEnd_2] at hD
    refine lv_iload_n C.1 C.2.1 dX3_kindsEnd_2 rfl (lv_at hl 2 rfl) ?_
    refine lv_iload_n C.1 C.2.1 dX3_kindsEnd_3 rfl (lv_at hl 1 rfl) ?_
    refine lv_icmp_ge (tgt := 26) C.1 C.2.1 dX3_kindsEnd_4 (by decide) (fun c1 => ?_) (fun c1 => ?_)
    · have hD := b_t c1 hD
      refine lv_iconst (v := (-1 : Int32)) C.1 C.2.1 dX3_kindsEnd_26 (by decide) ?_
      cases hD
      exact ri_X C hr hP hS dX3_kindsEnd_27
    · have hD := b_f c1 hD
      refine lv_aload_n C.1 C.2.1 dX3_kindsEnd_7 rfl (lv_at hl 0 rfl) ?_
      refine gf_X3_9_1 C hP dX3_kindsEnd_8 ?_
      refine lv_iload_n C.1 C.2.1 dX3_kindsEnd_11 rfl (lv_at hl 2 rfl) ?_
      obtain ⟨hi2, hD⟩ := gi_some hD
      refine iaX C hP 2 rfl hi2 dX3_kindsEnd_12 ?_
      refine lv_bipush (v := (59 : Int32)) C.1 C.2.1 dX3_kindsEnd_13 (by decide) ?_
      refine lv_icmp_ne (tgt := 20) C.1 C.2.1 dX3_kindsEnd_15 (by decide) (fun c3 => ?_) (fun c3 => ?_)
      · have hD := b_f c3 hD
        refine lv_iinc (v := x2 + (1 : Int32)) (lv' := [(2, .int (x2 + (1 : Int32))), (0, .ref (g.2.2 1)), (1, .int x1)]) C.1 C.2.1 dX3_kindsEnd_20 hl (k := 2) rfl rfl (by decide) rfl (fun ls hl => ?_)
        refine lv_goto (tgt := 2) C.1 C.2.1 dX3_kindsEnd_23 (by decide) ?_
        exact ih (x2 + (1 : Int32)) H locs ls (lv_sub hl [1, 2, 0] rfl) hP hS hD
      · have hD := b_t c3 hD
        refine lv_iload_n C.1 C.2.1 dX3_kindsEnd_18 rfl (lv_at hl 2 rfl) ?_
        cases hD
        exact ri_X C hr hP hS dX3_kindsEnd_19
set_option maxHeartbeats 4000000 in
set_option maxRecDepth 100000 in
theorem c_X3_kindsEnd (l : Launch) (g : Gx) (sz : Nat) (N : Nat) (σ : St) (x1 : Int32) {r : Int32} (hD : D_X3_kindsEnd N σ x1 = some r) : Met l yX3_kindsEnd (Cond.code yX3_kindsEnd cX3_kindsEnd 3 (some .int) :: tb) rm_X3_kindsEnd (PcX g [.ref (g.2.2 1), .int x1] σ sz) (QiX g (AX g sz) r σ) 0 0 (AX g sz) := by
  refine Met.ofW (cc := cX3_kindsEnd) (maxL := 3) (ret := some .int) (by decide) rfl ?_
  intro p e s m args below meth c s₁ B hml hv
  have hv0 := hv
  obtain ⟨rfl, hsz, hP, -⟩ := hv
  subst hsz
  have C : CX g (AX g s.heap.size) p s m _ meth c cX3_kindsEnd 3 RX3 := CX.of B hml (fun w h => List.mem_cons_of_mem _ h) rfl hv0
  have hr := B.returns
  have hS : va_S (AX g s.heap.size) s.heap s.heap [] := va_S.rf
  have hl := lv_entry ([.ref (g.2.2 1), .int x1]) (n := 3) (Nat.le_of_ble_eq_true rfl)
  rw [lg_entry_eq]
  generalize (lg_sl ([.ref (g.2.2 1), .int x1]) ++ List.replicate (3 - (lg_sl ([.ref (g.2.2 1), .int x1])).length) Slot.unset).toArray = ls at hl ⊢
  have hl : lv_has ls 3 [(0, .ref (g.2.2 1)), (1, .int x1)] := hl
  obtain ⟨H, hH⟩ : ∃ H, H = s.heap := ⟨_, rfl⟩
  have hP : va_P g.1 vwCl (wX g σ) H := by rw [hH]; exact hP
  have hS : va_S (AX g s.heap.size) s.heap H [] := by rw [hH]; exact hS
  refine wH hH ?_
  obtain ⟨locs, hlo⟩ : ∃ locs : List Loc, locs = [] := ⟨_, rfl⟩
  rw [← hlo] at hS
  refine wL hlo ?_
  unfold D_X3_kindsEnd at hD
  refine lv_iconst (v := (3 : Int32)) C.1 C.2.1 dX3_kindsEnd_0 (by decide) ?_
  refine lv_istore_n (lv' := [(2, .int (3 : Int32)), (0, .ref (g.2.2 1)), (1, .int x1)]) C.1 C.2.1 dX3_kindsEnd_1 rfl hl (by decide) rfl (fun ls hl => ?_)
  exact w_L_X3_kindsEnd_2 C hr N σ x1 N (3 : Int32) H locs ls (lv_sub hl [1, 2, 0] rfl) hP hS hD
abbrev rm_X3_pegs : Room := { frames := 0, cells := 0, slots := 0, locals := 0 }
set_option maxHeartbeats 4000000 in
set_option maxRecDepth 100000 in
theorem c_X3_pegs (l : Launch) (g : Gx) (sz : Nat) (σ : St) {r : Int32} (hD : D_X3_pegs σ = some r) : Met l yX3_pegs (Cond.code yX3_pegs cX3_pegs 1 (some .int) :: tb) rm_X3_pegs (PcX g [.ref (g.2.2 1)] σ sz) (QiX g (AX g sz) r σ) 0 0 (AX g sz) := by
  refine Met.ofW (cc := cX3_pegs) (maxL := 1) (ret := some .int) (by decide) rfl ?_
  intro p e s m args below meth c s₁ B hml hv
  have hv0 := hv
  obtain ⟨rfl, hsz, hP, -⟩ := hv
  subst hsz
  have C : CX g (AX g s.heap.size) p s m _ meth c cX3_pegs 1 RX3 := CX.of B hml (fun w h => List.mem_cons_of_mem _ h) rfl hv0
  have hr := B.returns
  have hS : va_S (AX g s.heap.size) s.heap s.heap [] := va_S.rf
  have hl := lv_entry ([.ref (g.2.2 1)]) (n := 1) (Nat.le_of_ble_eq_true rfl)
  rw [lg_entry_eq]
  generalize (lg_sl ([.ref (g.2.2 1)]) ++ List.replicate (1 - (lg_sl ([.ref (g.2.2 1)])).length) Slot.unset).toArray = ls at hl ⊢
  have hl : lv_has ls 1 [(0, .ref (g.2.2 1))] := hl
  obtain ⟨H, hH⟩ : ∃ H, H = s.heap := ⟨_, rfl⟩
  have hP : va_P g.1 vwCl (wX g σ) H := by rw [hH]; exact hP
  have hS : va_S (AX g s.heap.size) s.heap H [] := by rw [hH]; exact hS
  refine wH hH ?_
  obtain ⟨locs, hlo⟩ : ∃ locs : List Loc, locs = [] := ⟨_, rfl⟩
  rw [← hlo] at hS
  refine wL hlo ?_
  unfold D_X3_pegs at hD
  refine lv_aload_n C.1 C.2.1 dX3_pegs_0 rfl (lv_at hl 0 rfl) ?_
  refine gf_X3_9_1 C hP dX3_pegs_1 ?_
  refine lv_iconst (v := (0 : Int32)) C.1 C.2.1 dX3_pegs_4 (by decide) ?_
  obtain ⟨hi1, hD⟩ := gi_some hD
  refine iaX C hP 2 rfl hi1 dX3_pegs_5 ?_
  refine lv_bipush (v := (48 : Int32)) C.1 C.2.1 dX3_pegs_6 (by decide) ?_
  refine lv_isub C.1 C.2.1 dX3_pegs_8 ?_
  cases hD
  exact ri_X C hr hP hS dX3_pegs_9
abbrev rm_X3_colours : Room := { frames := 0, cells := 0, slots := 0, locals := 0 }
set_option maxHeartbeats 4000000 in
set_option maxRecDepth 100000 in
theorem c_X3_colours (l : Launch) (g : Gx) (sz : Nat) (σ : St) {r : Int32} (hD : D_X3_colours σ = some r) : Met l yX3_colours (Cond.code yX3_colours cX3_colours 1 (some .int) :: tb) rm_X3_colours (PcX g [.ref (g.2.2 1)] σ sz) (QiX g (AX g sz) r σ) 0 0 (AX g sz) := by
  refine Met.ofW (cc := cX3_colours) (maxL := 1) (ret := some .int) (by decide) rfl ?_
  intro p e s m args below meth c s₁ B hml hv
  have hv0 := hv
  obtain ⟨rfl, hsz, hP, -⟩ := hv
  subst hsz
  have C : CX g (AX g s.heap.size) p s m _ meth c cX3_colours 1 RX3 := CX.of B hml (fun w h => List.mem_cons_of_mem _ h) rfl hv0
  have hr := B.returns
  have hS : va_S (AX g s.heap.size) s.heap s.heap [] := va_S.rf
  have hl := lv_entry ([.ref (g.2.2 1)]) (n := 1) (Nat.le_of_ble_eq_true rfl)
  rw [lg_entry_eq]
  generalize (lg_sl ([.ref (g.2.2 1)]) ++ List.replicate (1 - (lg_sl ([.ref (g.2.2 1)])).length) Slot.unset).toArray = ls at hl ⊢
  have hl : lv_has ls 1 [(0, .ref (g.2.2 1))] := hl
  obtain ⟨H, hH⟩ : ∃ H, H = s.heap := ⟨_, rfl⟩
  have hP : va_P g.1 vwCl (wX g σ) H := by rw [hH]; exact hP
  have hS : va_S (AX g s.heap.size) s.heap H [] := by rw [hH]; exact hS
  refine wH hH ?_
  obtain ⟨locs, hlo⟩ : ∃ locs : List Loc, locs = [] := ⟨_, rfl⟩
  rw [← hlo] at hS
  refine wL hlo ?_
  unfold D_X3_colours at hD
  refine lv_aload_n C.1 C.2.1 dX3_colours_0 rfl (lv_at hl 0 rfl) ?_
  refine gf_X3_9_1 C hP dX3_colours_1 ?_
  refine lv_iconst (v := (1 : Int32)) C.1 C.2.1 dX3_colours_4 (by decide) ?_
  obtain ⟨hi1, hD⟩ := gi_some hD
  refine iaX C hP 2 rfl hi1 dX3_colours_5 ?_
  refine lv_bipush (v := (48 : Int32)) C.1 C.2.1 dX3_colours_6 (by decide) ?_
  refine lv_isub C.1 C.2.1 dX3_colours_8 ?_
  cases hD
  exact ri_X C hr hP hS dX3_colours_9
abbrev rm_X3_mayStand : Room := { frames := 4, cells := 0, slots := 0, locals := 91 }
set_option maxHeartbeats 4000000 in
set_option maxRecDepth 100000 in
theorem c_X3_mayStand (l : Launch) (g : Gx) (sz : Nat) (N : Nat) (σ : St) (x1 : Int32) {r : Int32} (hD : D_X3_mayStand N σ x1 = some r) : Met l yX3_mayStand (Cond.code yX3_mayStand cX3_mayStand 4 (some .boolean) :: tb) rm_X3_mayStand (PcX g [.ref (g.2.2 1), .int x1] σ sz) (QiX g (AX g sz) r σ) 0 0 (AX g sz) := by
  refine Met.ofW (cc := cX3_mayStand) (maxL := 4) (ret := some .boolean) (by decide) rfl ?_
  intro p e s m args below meth c s₁ B hml hv
  have hv0 := hv
  obtain ⟨rfl, hsz, hP, -⟩ := hv
  subst hsz
  have C : CX g (AX g s.heap.size) p s m _ meth c cX3_mayStand 4 RX3 := CX.of B hml (fun w h => List.mem_cons_of_mem _ h) rfl hv0
  have hr := B.returns
  have hS : va_S (AX g s.heap.size) s.heap s.heap [] := va_S.rf
  have hl := lv_entry ([.ref (g.2.2 1), .int x1]) (n := 4) (Nat.le_of_ble_eq_true rfl)
  rw [lg_entry_eq]
  generalize (lg_sl ([.ref (g.2.2 1), .int x1]) ++ List.replicate (4 - (lg_sl ([.ref (g.2.2 1), .int x1])).length) Slot.unset).toArray = ls at hl ⊢
  have hl : lv_has ls 4 [(0, .ref (g.2.2 1)), (1, .int x1)] := hl
  obtain ⟨H, hH⟩ : ∃ H, H = s.heap := ⟨_, rfl⟩
  have hP : va_P g.1 vwCl (wX g σ) H := by rw [hH]; exact hP
  have hS : va_S (AX g s.heap.size) s.heap H [] := by rw [hH]; exact hS
  refine wH hH ?_
  obtain ⟨locs, hlo⟩ : ∃ locs : List Loc, locs = [] := ⟨_, rfl⟩
  rw [← hlo] at hS
  refine wL hlo ?_
  unfold D_X3_mayStand at hD
  refine lv_aload_n C.1 C.2.1 dX3_mayStand_0 rfl (lv_at hl 0 rfl) ?_
  refine gf_X3_9_1 C hP dX3_mayStand_1 ?_
  refine lv_iload_n C.1 C.2.1 dX3_mayStand_4 rfl (lv_at hl 1 rfl) ?_
  obtain ⟨hi1, hD⟩ := gi_some hD
  refine iaX C hP 2 rfl hi1 dX3_mayStand_5 ?_
  refine lv_istore_n (lv' := [(2, .int (σ 2 x1.toNatClampNeg)), (0, .ref (g.2.2 1)), (1, .int x1)]) C.1 C.2.1 dX3_mayStand_6 rfl hl (by decide) rfl (fun ls hl => ?_)
  refine lv_iload_n C.1 C.2.1 dX3_mayStand_7 rfl (lv_at hl 2 rfl) ?_
  by_cases c2 : x1 = (0 : Int32)
  · have hD := b_t c2 hD
    refine lv_tableIn (off := 28) (tgt := 36) C.1 C.2.1 dX3_mayStand_8 (by rw [c2]; decide) (by rw [c2]; decide) (by rw [c2]; rfl) (by decide) ?_
    refine lv_iload_n C.1 C.2.1 dX3_mayStand_36 rfl (lv_at hl 0 rfl) ?_
    refine lv_bipush (v := (49 : Int32)) C.1 C.2.1 dX3_mayStand_37 (by decide) ?_
    refine lv_icmp_lt (tgt := 52) C.1 C.2.1 dX3_mayStand_39 (by decide) (fun c3 => ?_) (fun c3 => ?_)
    · have hD := b_t c3 hD
      refine lv_iconst (v := (0 : Int32)) C.1 C.2.1 dX3_mayStand_52 (by decide) ?_
      cases hD
      exact rz_X C hr (Or.inl rfl) hP hS dX3_mayStand_53
    · have hD := b_f c3 hD
      refine lv_iload_n C.1 C.2.1 dX3_mayStand_42 rfl (lv_at hl 0 rfl) ?_
      refine lv_bipush (v := (51 : Int32)) C.1 C.2.1 dX3_mayStand_43 (by decide) ?_
      refine lv_icmp_gt (tgt := 52) C.1 C.2.1 dX3_mayStand_45 (by decide) (fun c4 => ?_) (fun c4 => ?_)
      · have hD := b_t c4 hD
        refine lv_iconst (v := (0 : Int32)) C.1 C.2.1 dX3_mayStand_52 (by decide) ?_
        cases hD
        exact rz_X C hr (Or.inl rfl) hP hS dX3_mayStand_53
      · have hD := b_f c4 hD
        refine lv_iconst (v := (1 : Int32)) C.1 C.2.1 dX3_mayStand_48 (by decide) ?_
        refine lv_goto (tgt := 53) C.1 C.2.1 dX3_mayStand_49 (by decide) ?_
        cases hD
        exact rz_X C hr (Or.inr rfl) hP hS dX3_mayStand_53
  · have hD := b_f c2 hD
    by_cases c5 : x1 = (1 : Int32)
    · have hD := b_t c5 hD
      refine lv_tableIn (off := 46) (tgt := 54) C.1 C.2.1 dX3_mayStand_8 (by rw [c5]; decide) (by rw [c5]; decide) (by rw [c5]; rfl) (by decide) ?_
      refine lv_iload_n C.1 C.2.1 dX3_mayStand_54 rfl (lv_at hl 0 rfl) ?_
      refine lv_bipush (v := (50 : Int32)) C.1 C.2.1 dX3_mayStand_55 (by decide) ?_
      refine lv_icmp_lt (tgt := 70) C.1 C.2.1 dX3_mayStand_57 (by decide) (fun c6 => ?_) (fun c6 => ?_)
      · have hD := b_t c6 hD
        refine lv_iconst (v := (0 : Int32)) C.1 C.2.1 dX3_mayStand_70 (by decide) ?_
        cases hD
        exact rz_X C hr (Or.inl rfl) hP hS dX3_mayStand_71
      · have hD := b_f c6 hD
        refine lv_iload_n C.1 C.2.1 dX3_mayStand_60 rfl (lv_at hl 0 rfl) ?_
        refine lv_bipush (v := (54 : Int32)) C.1 C.2.1 dX3_mayStand_61 (by decide) ?_
        refine lv_icmp_gt (tgt := 70) C.1 C.2.1 dX3_mayStand_63 (by decide) (fun c7 => ?_) (fun c7 => ?_)
        · have hD := b_t c7 hD
          refine lv_iconst (v := (0 : Int32)) C.1 C.2.1 dX3_mayStand_70 (by decide) ?_
          cases hD
          exact rz_X C hr (Or.inl rfl) hP hS dX3_mayStand_71
        · have hD := b_f c7 hD
          refine lv_iconst (v := (1 : Int32)) C.1 C.2.1 dX3_mayStand_66 (by decide) ?_
          refine lv_goto (tgt := 71) C.1 C.2.1 dX3_mayStand_67 (by decide) ?_
          cases hD
          exact rz_X C hr (Or.inr rfl) hP hS dX3_mayStand_71
    · have hD := b_f c5 hD
      by_cases c8 : x1 = (2 : Int32)
      · have hD := b_t c8 hD
        refine lv_tableIn (off := 64) (tgt := 72) C.1 C.2.1 dX3_mayStand_8 (by rw [c8]; decide) (by rw [c8]; decide) (by rw [c8]; rfl) (by decide) ?_
        refine lv_iload_n C.1 C.2.1 dX3_mayStand_72 rfl (lv_at hl 0 rfl) ?_
        refine lv_bipush (v := (59 : Int32)) C.1 C.2.1 dX3_mayStand_73 (by decide) ?_
        refine lv_icmp_ne (tgt := 82) C.1 C.2.1 dX3_mayStand_75 (by decide) (fun c9 => ?_) (fun c9 => ?_)
        · have hD := b_f c9 hD
          refine lv_iconst (v := (0 : Int32)) C.1 C.2.1 dX3_mayStand_82 (by decide) ?_
          cases hD
          exact rz_X C hr (Or.inl rfl) hP hS dX3_mayStand_83
        · have hD := b_t c9 hD
          refine lv_iconst (v := (1 : Int32)) C.1 C.2.1 dX3_mayStand_78 (by decide) ?_
          refine lv_goto (tgt := 83) C.1 C.2.1 dX3_mayStand_79 (by decide) ?_
          cases hD
          exact rz_X C hr (Or.inr rfl) hP hS dX3_mayStand_83
      · have hD := b_f c8 hD
        refine lv_tableOut (tgt := 84) C.1 C.2.1 dX3_mayStand_8 (by have q2 := lv_neT c2 (a := 0) (by decide); have q5 := lv_neT c5 (a := 1) (by decide); have q8 := lv_neT c8 (a := 2) (by decide); omega) (by decide) ?_
        refine lv_aload_n C.1 C.2.1 dX3_mayStand_84 rfl (lv_at hl 1 rfl) ?_
        refine lv_iload_n C.1 C.2.1 dX3_mayStand_85 rfl (lv_at hl 2 rfl) ?_
        obtain ⟨r10, hd10, hD⟩ := bp_some hD
        refine kVi_X (As := [.int x1]) (rest := []) (ci := 3) (q0 := 1) C (c_X3_kindsEnd l g H.size N σ x1 hd10) kw_X3_23 ⟨rfl, rfl⟩ ⟨Nat.le_of_ble_eq_true rfl, Nat.le_of_ble_eq_true rfl⟩ kv_X3_kindsEnd rfl rfl rfl hl.1 (Nat.le_of_ble_eq_true rfl) ⟨Nat.zero_le _, Nat.zero_le _⟩ dX3_mayStand_86 hP hS rfl (fun H locs hP hS => ?_)
        refine lv_istore_n (lv' := [(3, .int r10), (2, .int (σ 2 x1.toNatClampNeg)), (0, .ref (g.2.2 1)), (1, .int x1)]) C.1 C.2.1 dX3_mayStand_89 rfl hl (by decide) rfl (fun ls hl => ?_)
        refine lv_iload_n C.1 C.2.1 dX3_mayStand_90 rfl (lv_at hl 0 rfl) ?_
        refine lv_iconst (v := (-1 : Int32)) C.1 C.2.1 dX3_mayStand_91 (by decide) ?_
        refine lv_icmp_eq (tgt := 128) C.1 C.2.1 dX3_mayStand_92 (by decide) (fun c11 => ?_) (fun c11 => ?_)
        · have hD := b_t c11 hD
          refine lv_iload_n C.1 C.2.1 dX3_mayStand_128 rfl (lv_at hl 1 rfl) ?_
          refine lv_bipush (v := (59 : Int32)) C.1 C.2.1 dX3_mayStand_129 (by decide) ?_
          refine lv_icmp_ne (tgt := 145) C.1 C.2.1 dX3_mayStand_131 (by decide) (fun c12 => ?_) (fun c12 => ?_)
          · have hD := b_f c12 hD
            refine lv_iload_n C.1 C.2.1 dX3_mayStand_145 rfl (lv_at hl 3 rfl) ?_
            refine lv_bipush (v := (6 : Int32)) C.1 C.2.1 dX3_mayStand_146 (by decide) ?_
            refine lv_icmp_ge (tgt := 165) C.1 C.2.1 dX3_mayStand_148 (by decide) (fun c13 => ?_) (fun c13 => ?_)
            · have hD := b_t c13 hD
              refine lv_iconst (v := (0 : Int32)) C.1 C.2.1 dX3_mayStand_165 (by decide) ?_
              cases hD
              exact rz_X C hr (Or.inl rfl) hP hS dX3_mayStand_166
            · have hD := b_f c13 hD
              refine va_ldcS (q := g.2.2 50) (own := RX3) (tx := "jstwc") (index := 37) C.1 C.2.1 C.2.2.2.1 C.2.2.2.2.2.2.2.2.2.2.1 dX3_mayStand_151 ?_
              refine lv_iload_n C.1 C.2.1 dX3_mayStand_153 rfl (lv_at hl 1 rfl) ?_
              refine lv_i2c C.1 C.2.1 dX3_mayStand_154 rfl ?_
              obtain ⟨r14, hd14, hD⟩ := bp_some hD
              refine kVi_S (As := [.int (((σ 2 x1.toNatClampNeg).toUInt32 % 65536).toInt32)]) (rest := []) C (c_J0_indexOf_0f7a4 l g H.size N σ (((σ 2 x1.toNatClampNeg).toUInt32 % 65536).toInt32) hd14) kw_X3_39 ⟨rfl, rfl⟩ ⟨Nat.le_of_ble_eq_true rfl, Nat.le_of_ble_eq_true rfl⟩ kv_J0_indexOf_0f7a4 (recS C hS) rfl hl.1 (Nat.le_of_ble_eq_true rfl) ⟨Nat.zero_le _, Nat.zero_le _⟩ dX3_mayStand_155 hP hS rfl (fun H locs hP hS => ?_)
              refine lv_if_lt (tgt := 165) C.1 C.2.1 dX3_mayStand_158 (by decide) (fun c15 => ?_) (fun c15 => ?_)
              · have hD := b_t c15 hD
                refine lv_iconst (v := (0 : Int32)) C.1 C.2.1 dX3_mayStand_165 (by decide) ?_
                cases hD
                exact rz_X C hr (Or.inl rfl) hP hS dX3_mayStand_166
              · have hD := b_f c15 hD
                refine lv_iconst (v := (1 : Int32)) C.1 C.2.1 dX3_mayStand_161 (by decide) ?_
                refine lv_goto (tgt := 166) C.1 C.2.1 dX3_mayStand_162 (by decide) ?_
                cases hD
                exact rz_X C hr (Or.inr rfl) hP hS dX3_mayStand_166
          · have hD := b_t c12 hD
            refine lv_iload_n C.1 C.2.1 dX3_mayStand_134 rfl (lv_at hl 3 rfl) ?_
            refine lv_iconst (v := (3 : Int32)) C.1 C.2.1 dX3_mayStand_135 (by decide) ?_
            refine lv_icmp_le (tgt := 143) C.1 C.2.1 dX3_mayStand_136 (by decide) (fun c16 => ?_) (fun c16 => ?_)
            · have hD := b_t c16 hD
              refine lv_iconst (v := (0 : Int32)) C.1 C.2.1 dX3_mayStand_143 (by decide) ?_
              cases hD
              exact rz_X C hr (Or.inl rfl) hP hS dX3_mayStand_144
            · have hD := b_f c16 hD
              refine lv_iconst (v := (1 : Int32)) C.1 C.2.1 dX3_mayStand_139 (by decide) ?_
              refine lv_goto (tgt := 144) C.1 C.2.1 dX3_mayStand_140 (by decide) ?_
              cases hD
              exact rz_X C hr (Or.inr rfl) hP hS dX3_mayStand_144
        · have hD := b_f c11 hD
          refine lv_iload_n C.1 C.2.1 dX3_mayStand_95 rfl (lv_at hl 3 rfl) ?_
          refine lv_iload_n C.1 C.2.1 dX3_mayStand_96 rfl (lv_at hl 0 rfl) ?_
          refine lv_aload_n C.1 C.2.1 dX3_mayStand_97 rfl (lv_at hl 2 rfl) ?_
          obtain ⟨r17, hd17, hD⟩ := bp_some hD
          refine kVi_X (As := []) (rest := [.int r10, .int x1]) (ci := 3) (q0 := 1) C (c_X3_pegs l g H.size σ hd17) kw_X3_27 ⟨rfl, rfl⟩ ⟨Nat.le_of_ble_eq_true rfl, Nat.le_of_ble_eq_true rfl⟩ kv_X3_pegs rfl rfl rfl hl.1 (Nat.le_of_ble_eq_true rfl) ⟨Nat.zero_le _, Nat.zero_le _⟩ dX3_mayStand_98 hP hS rfl (fun H locs hP hS => ?_)
          refine lv_iadd C.1 C.2.1 dX3_mayStand_101 ?_
          refine lv_icmp_gt (tgt := 126) C.1 C.2.1 dX3_mayStand_102 (by decide) (fun c18 => ?_) (fun c18 => ?_)
          · have hD := b_t c18 hD
            refine lv_iconst (v := (0 : Int32)) C.1 C.2.1 dX3_mayStand_126 (by decide) ?_
            cases hD
            exact rz_X C hr (Or.inl rfl) hP hS dX3_mayStand_127
          · have hD := b_f c18 hD
            refine lv_iload_n C.1 C.2.1 dX3_mayStand_105 rfl (lv_at hl 1 rfl) ?_
            refine lv_bipush (v := (97 : Int32)) C.1 C.2.1 dX3_mayStand_106 (by decide) ?_
            refine lv_icmp_lt (tgt := 126) C.1 C.2.1 dX3_mayStand_108 (by decide) (fun c19 => ?_) (fun c19 => ?_)
            · have hD := b_t c19 hD
              refine lv_iconst (v := (0 : Int32)) C.1 C.2.1 dX3_mayStand_126 (by decide) ?_
              cases hD
              exact rz_X C hr (Or.inl rfl) hP hS dX3_mayStand_127
            · have hD := b_f c19 hD
              refine lv_iload_n C.1 C.2.1 dX3_mayStand_111 rfl (lv_at hl 1 rfl) ?_
              refine lv_bipush (v := (97 : Int32)) C.1 C.2.1 dX3_mayStand_112 (by decide) ?_
              refine lv_aload_n C.1 C.2.1 dX3_mayStand_114 rfl (lv_at hl 2 rfl) ?_
              obtain ⟨r20, hd20, hD⟩ := bp_some hD
              refine kVi_X (As := []) (rest := [.int (97 : Int32), .int (σ 2 x1.toNatClampNeg)]) (ci := 3) (q0 := 1) C (c_X3_colours l g H.size σ hd20) kw_X3_34 ⟨rfl, rfl⟩ ⟨Nat.le_of_ble_eq_true rfl, Nat.le_of_ble_eq_true rfl⟩ kv_X3_colours rfl rfl rfl hl.1 (Nat.le_of_ble_eq_true rfl) ⟨Nat.zero_le _, Nat.zero_le _⟩ dX3_mayStand_115 hP hS rfl (fun H locs hP hS => ?_)
              refine lv_iadd C.1 C.2.1 dX3_mayStand_118 ?_
              refine lv_icmp_ge (tgt := 126) C.1 C.2.1 dX3_mayStand_119 (by decide) (fun c21 => ?_) (fun c21 => ?_)
              · have hD := b_t c21 hD
                refine lv_iconst (v := (0 : Int32)) C.1 C.2.1 dX3_mayStand_126 (by decide) ?_
                cases hD
                exact rz_X C hr (Or.inl rfl) hP hS dX3_mayStand_127
              · have hD := b_f c21 hD
                refine lv_iconst (v := (1 : Int32)) C.1 C.2.1 dX3_mayStand_122 (by decide) ?_
                refine lv_goto (tgt := 127) C.1 C.2.1 dX3_mayStand_123 (by decide) ?_
                cases hD
                exact rz_X C hr (Or.inr rfl) hP hS dX3_mayStand_127
abbrev rm_X3_firstFault : Room := { frames := 5, cells := 0, slots := 0, locals := 114 }
set_option maxHeartbeats 4000000 in
set_option maxRecDepth 100000 in
theorem w_L_X3_firstFault_2 (C : CX g A p s m args meth c cX3_firstFault 2 RX3) (hr : meth.sig.returnType = some .int) (N : Nat) (σ : St) {r : Int32} : ∀ (n : Nat) (x1 : Int32) (H : Heap) (locs : List Loc) (ls : Array Slot), lv_has ls 2 [(0, .ref (g.2.2 1)), (1, .int x1)] → va_P g.1 vwCl (wX g σ) H → va_S A s.heap H locs → L_X3_firstFault_2 N σ n x1 = some r → W p l e rm_X3_firstFault s m args below meth c H locs 0 0 (MQ below (QiX g A r σ) args s 0 0 A) (F0 m 2 ls []) := by
  intro n
  induction n with
  | zero =>
    intro x1 H locs ls hl hP hS hD
    rw [L_X3_firstFault_2] at hD
    cases hD
  | succ n ih =>
    intro x1 H locs ls hl hP hS hD
    rw [L_X3_firstFault_2] at hD
    refine lv_iload_n C.1 C.2.1 dX3_firstFault_2 rfl (lv_at hl 1 rfl) ?_
    refine lv_aload_n C.1 C.2.1 dX3_firstFault_3 rfl (lv_at hl 0 rfl) ?_
    refine gf_X3_15_1 C hP dX3_firstFault_4 ?_
    refine lv_icmp_ge (tgt := 26) C.1 C.2.1 dX3_firstFault_7 (by decide) (fun c1 => ?_) (fun c1 => ?_)
    · have hD := b_t c1 hD
      refine lv_aload_n C.1 C.2.1 dX3_firstFault_26 rfl (lv_at hl 0 rfl) ?_
      refine gf_X3_15_1 C hP dX3_firstFault_27 ?_
      cases hD
      exact ri_X C hr hP hS dX3_firstFault_30
    · have hD := b_f c1 hD
      refine lv_aload_n C.1 C.2.1 dX3_firstFault_10 rfl (lv_at hl 0 rfl) ?_
      refine lv_iload_n C.1 C.2.1 dX3_firstFault_11 rfl (lv_at hl 1 rfl) ?_
      obtain ⟨r2, hd2, hD⟩ := bp_some hD
      refine kVi_X (As := [.int x1]) (rest := []) (ci := 3) (q0 := 1) C (c_X3_mayStand l g H.size N σ x1 hd2) kw_X3_19 ⟨rfl, rfl⟩ ⟨Nat.le_of_ble_eq_true rfl, Nat.le_of_ble_eq_true rfl⟩ kv_X3_mayStand rfl rfl rfl hl.1 (Nat.le_of_ble_eq_true rfl) ⟨Nat.zero_le _, Nat.zero_le _⟩ dX3_firstFault_12 hP hS rfl (fun H locs hP hS => ?_)
      refine lv_if_ne (tgt := 20) C.1 C.2.1 dX3_firstFault_15 (by decide) (fun c3 => ?_) (fun c3 => ?_)
      · have hD := b_f c3 hD
        refine lv_iinc (v := x1 + (1 : Int32)) (lv' := [(1, .int (x1 + (1 : Int32))), (0, .ref (g.2.2 1))]) C.1 C.2.1 dX3_firstFault_20 hl (k := 1) rfl rfl (by decide) rfl (fun ls hl => ?_)
        refine lv_goto (tgt := 2) C.1 C.2.1 dX3_firstFault_23 (by decide) ?_
        exact ih (x1 + (1 : Int32)) H locs ls (lv_sub hl [1, 0] rfl) hP hS hD
      · have hD := b_t c3 hD
        refine lv_iload_n C.1 C.2.1 dX3_firstFault_18 rfl (lv_at hl 1 rfl) ?_
        cases hD
        exact ri_X C hr hP hS dX3_firstFault_19
set_option maxHeartbeats 4000000 in
set_option maxRecDepth 100000 in
theorem c_X3_firstFault (l : Launch) (g : Gx) (sz : Nat) (N : Nat) (σ : St) {r : Int32} (hD : D_X3_firstFault N σ = some r) : Met l yX3_firstFault (Cond.code yX3_firstFault cX3_firstFault 2 (some .int) :: tb) rm_X3_firstFault (PcX g [.ref (g.2.2 1)] σ sz) (QiX g (AX g sz) r σ) 0 0 (AX g sz) := by
  refine Met.ofW (cc := cX3_firstFault) (maxL := 2) (ret := some .int) (by decide) rfl ?_
  intro p e s m args below meth c s₁ B hml hv
  have hv0 := hv
  obtain ⟨rfl, hsz, hP, -⟩ := hv
  subst hsz
  have C : CX g (AX g s.heap.size) p s m _ meth c cX3_firstFault 2 RX3 := CX.of B hml (fun w h => List.mem_cons_of_mem _ h) rfl hv0
  have hr := B.returns
  have hS : va_S (AX g s.heap.size) s.heap s.heap [] := va_S.rf
  have hl := lv_entry ([.ref (g.2.2 1)]) (n := 2) (Nat.le_of_ble_eq_true rfl)
  rw [lg_entry_eq]
  generalize (lg_sl ([.ref (g.2.2 1)]) ++ List.replicate (2 - (lg_sl ([.ref (g.2.2 1)])).length) Slot.unset).toArray = ls at hl ⊢
  have hl : lv_has ls 2 [(0, .ref (g.2.2 1))] := hl
  obtain ⟨H, hH⟩ : ∃ H, H = s.heap := ⟨_, rfl⟩
  have hP : va_P g.1 vwCl (wX g σ) H := by rw [hH]; exact hP
  have hS : va_S (AX g s.heap.size) s.heap H [] := by rw [hH]; exact hS
  refine wH hH ?_
  obtain ⟨locs, hlo⟩ : ∃ locs : List Loc, locs = [] := ⟨_, rfl⟩
  rw [← hlo] at hS
  refine wL hlo ?_
  unfold D_X3_firstFault at hD
  refine lv_iconst (v := (0 : Int32)) C.1 C.2.1 dX3_firstFault_0 (by decide) ?_
  refine lv_istore_n (lv' := [(1, .int (0 : Int32)), (0, .ref (g.2.2 1))]) C.1 C.2.1 dX3_firstFault_1 rfl hl (by decide) rfl (fun ls hl => ?_)
  exact w_L_X3_firstFault_2 C hr N σ N (0 : Int32) H locs ls (lv_sub hl [1, 0] rfl) hP hS hD
abbrev rm_X11_fault : Room := { frames := 6, cells := 0, slots := 0, locals := 135 }
set_option maxHeartbeats 4000000 in
set_option maxRecDepth 100000 in
theorem c_X11_fault (l : Launch) (g : Gx) (sz : Nat) (N : Nat) (σ : St) {r : Int32} (hD : D_X11_fault N σ = some r) : Met l yX11_fault (Cond.code yX11_fault cX11_fault 1 (some .int) :: tb) rm_X11_fault (PcX g [.ref (g.2.2 0)] σ sz) (QiX g (AX g sz) r σ) 0 0 (AX g sz) := by
  refine Met.ofW (cc := cX11_fault) (maxL := 1) (ret := some .int) (by decide) rfl ?_
  intro p e s m args below meth c s₁ B hml hv
  have hv0 := hv
  obtain ⟨rfl, hsz, hP, -⟩ := hv
  subst hsz
  have C : CX g (AX g s.heap.size) p s m _ meth c cX11_fault 1 RX11 := CX.of B hml (fun w h => List.mem_cons_of_mem _ h) rfl hv0
  have hr := B.returns
  have hS : va_S (AX g s.heap.size) s.heap s.heap [] := va_S.rf
  have hl := lv_entry ([.ref (g.2.2 0)]) (n := 1) (Nat.le_of_ble_eq_true rfl)
  rw [lg_entry_eq]
  generalize (lg_sl ([.ref (g.2.2 0)]) ++ List.replicate (1 - (lg_sl ([.ref (g.2.2 0)])).length) Slot.unset).toArray = ls at hl ⊢
  have hl : lv_has ls 1 [(0, .ref (g.2.2 0))] := hl
  obtain ⟨H, hH⟩ : ∃ H, H = s.heap := ⟨_, rfl⟩
  have hP : va_P g.1 vwCl (wX g σ) H := by rw [hH]; exact hP
  have hS : va_S (AX g s.heap.size) s.heap H [] := by rw [hH]; exact hS
  refine wH hH ?_
  obtain ⟨locs, hlo⟩ : ∃ locs : List Loc, locs = [] := ⟨_, rfl⟩
  rw [← hlo] at hS
  refine wL hlo ?_
  unfold D_X11_fault at hD
  refine lv_aload_n C.1 C.2.1 dX11_fault_0 rfl (lv_at hl 0 rfl) ?_
  refine gf_X11_12_0 C hP dX11_fault_1 ?_
  obtain ⟨r1, hd1, hD⟩ := bp_some hD
  refine kVi_X (As := []) (rest := []) (ci := 3) (q0 := 1) C (c_X3_firstFault l g H.size N σ hd1) kw_X11_89 ⟨rfl, rfl⟩ ⟨Nat.le_of_ble_eq_true rfl, Nat.le_of_ble_eq_true rfl⟩ kv_X3_firstFault rfl rfl rfl hl.1 (Nat.le_of_ble_eq_true rfl) ⟨Nat.zero_le _, Nat.zero_le _⟩ dX11_fault_4 hP hS rfl (fun H locs hP hS => ?_)
  cases hD
  exact ri_X C hr hP hS dX11_fault_7
abbrev rm_X11_fitting : Room := { frames := 3, cells := 0, slots := 0, locals := 65 }
set_option maxHeartbeats 4000000 in
set_option maxRecDepth 100000 in
theorem w_L_X11_fitting_2 (C : CX g A p s m args meth c cX11_fitting 4 RX11) (hr : meth.sig.returnType = some .boolean) (N : Nat) (σ : St) {r : Int32} (x1 : Int32) : ∀ (n : Nat) (x2 : Int32) (H : Heap) (locs : List Loc) (ls : Array Slot), lv_has ls 4 [(0, .ref (g.2.2 0)), (1, .int x1), (2, .int x2)] → va_P g.1 vwCl (wX g σ) H → va_S A s.heap H locs → L_X11_fitting_2 N σ x1 n x2 = some r → W p l e rm_X11_fitting s m args below meth c H locs 0 0 (MQ below (QiX g A r σ) args s 0 0 A) (F0 m 2 ls []) := by
  intro n
  induction n with
  | zero =>
    intro x2 H locs ls hl hP hS hD
    rw [L_X11_fitting_2] at hD
    cases hD
  | succ n ih =>
    intro x2 H locs ls hl hP hS hD
    rw [L_X11_fitting_2] at hD
    refine lv_iload_n C.1 C.2.1 dX11_fitting_2 rfl (lv_at hl 2 rfl) ?_
    refine lv_aload_n C.1 C.2.1 dX11_fitting_3 rfl (lv_at hl 0 rfl) ?_
    refine gf_X11_42_0 C hP dX11_fitting_4 ?_
    refine gf_X11_125_10 C hP dX11_fitting_7 ?_
    refine lv_icmp_ge (tgt := 65) C.1 C.2.1 dX11_fitting_10 (by decide) (fun c1 => ?_) (fun c1 => ?_)
    · have hD := b_t c1 hD
      refine lv_iconst (v := (1 : Int32)) C.1 C.2.1 dX11_fitting_65 (by decide) ?_
      cases hD
      exact rz_X C hr (Or.inr rfl) hP hS dX11_fitting_66
    · have hD := b_f c1 hD
      refine lv_aload_n C.1 C.2.1 dX11_fitting_13 rfl (lv_at hl 0 rfl) ?_
      refine lv_aload_n C.1 C.2.1 dX11_fitting_14 rfl (lv_at hl 0 rfl) ?_
      refine gf_X11_42_0 C hP dX11_fitting_15 ?_
      refine gf_X11_181_10 C hP dX11_fitting_18 ?_
      refine lv_iload_n C.1 C.2.1 dX11_fitting_21 rfl (lv_at hl 2 rfl) ?_
      obtain ⟨hi2, hD⟩ := gi_some hD
      refine iaX C hP 13 rfl hi2 dX11_fitting_22 ?_
      obtain ⟨r3, hd3, hD⟩ := bp_some hD
      refine kVr_X (As := [.int (σ 13 x2.toNatClampNeg)]) (rest := []) (ci := 11) (q0 := 0) C (c_X11_judgeAt l g H.size σ (σ 13 x2.toNatClampNeg) hd3) kw_X11_147 ⟨rfl, rfl⟩ ⟨Nat.le_of_ble_eq_true rfl, Nat.le_of_ble_eq_true rfl⟩ kv_X11_judgeAt rfl rfl rfl hl.1 (Nat.le_of_ble_eq_true rfl) ⟨Nat.zero_le _, Nat.zero_le _⟩ dX11_fitting_23 hP hS rfl (fun H locs hP hS => ?_)
      refine lv_astore_n (lv' := [(3, .ref (g.2.2 (4 + r3))), (0, .ref (g.2.2 0)), (1, .int x1), (2, .int x2)]) C.1 C.2.1 dX11_fitting_26 rfl hl (by decide) rfl (fun ls hl => ?_)
      refine lv_aload_n C.1 C.2.1 dX11_fitting_27 rfl (lv_at hl 0 rfl) ?_
      refine lv_aload_n C.1 C.2.1 dX11_fitting_28 rfl (lv_at hl 1 rfl) ?_
      refine gf_X11_57_0 C hP dX11_fitting_29 ?_
      refine lv_aload_n C.1 C.2.1 dX11_fitting_32 rfl (lv_at hl 1 rfl) ?_
      refine gf_X11_42_0 C hP dX11_fitting_33 ?_
      refine gf_X11_178_10 C hP dX11_fitting_36 ?_
      refine lv_iload_n C.1 C.2.1 dX11_fitting_39 rfl (lv_at hl 3 rfl) ?_
      obtain ⟨hi4, hD⟩ := gi_some hD
      refine iaX C hP 12 rfl hi4 dX11_fitting_40 ?_
      refine lv_iload_n C.1 C.2.1 dX11_fitting_41 rfl (lv_at hl 2 rfl) ?_
      obtain ⟨r5, hd5, hD⟩ := bp_some hD
      refine kW_X11_174 C hd5 ⟨Nat.le_of_ble_eq_true rfl, Nat.le_of_ble_eq_true rfl⟩ hl.1 (Nat.le_of_ble_eq_true rfl) ⟨Nat.zero_le _, Nat.zero_le _⟩ dX11_fitting_42 hP hS (fun H locs hP hS => ?_)
      refine lv_aload_n C.1 C.2.1 dX11_fitting_45 rfl (lv_at hl 1 rfl) ?_
      refine gf_X11_42_0 C hP dX11_fitting_46 ?_
      refine gf_X11_184_10 C hP dX11_fitting_49 ?_
      refine lv_iload_n C.1 C.2.1 dX11_fitting_52 rfl (lv_at hl 3 rfl) ?_
      obtain ⟨hi6, hD⟩ := gi_some hD
      refine iaX C hP 14 rfl hi6 dX11_fitting_53 ?_
      refine lv_icmp_eq (tgt := 59) C.1 C.2.1 dX11_fitting_54 (by decide) (fun c7 => ?_) (fun c7 => ?_)
      · have hD := b_t c7 hD
        refine lv_iinc (v := x2 + (1 : Int32)) (lv' := [(2, .int (x2 + (1 : Int32))), (3, .ref (g.2.2 (4 + r3))), (0, .ref (g.2.2 0)), (1, .int x1)]) C.1 C.2.1 dX11_fitting_59 hl (k := 3) rfl rfl (by decide) rfl (fun ls hl => ?_)
        refine lv_goto (tgt := 2) C.1 C.2.1 dX11_fitting_62 (by decide) ?_
        exact ih (x2 + (1 : Int32)) H locs ls (lv_sub hl [2, 3, 0] rfl) hP hS hD
      · have hD := b_f c7 hD
        refine lv_iconst (v := (0 : Int32)) C.1 C.2.1 dX11_fitting_57 (by decide) ?_
        cases hD
        exact rz_X C hr (Or.inl rfl) hP hS dX11_fitting_58
set_option maxHeartbeats 4000000 in
set_option maxRecDepth 100000 in
theorem c_X11_fitting (l : Launch) (g : Gx) (sz : Nat) (N : Nat) (σ : St) (x1 : Int32) {r : Int32} (hD : D_X11_fitting N σ x1 = some r) : Met l yX11_fitting (Cond.code yX11_fitting cX11_fitting 4 (some .boolean) :: tb) rm_X11_fitting (PcX g [.ref (g.2.2 0), .int x1] σ sz) (QiX g (AX g sz) r σ) 0 0 (AX g sz) := by
  refine Met.ofW (cc := cX11_fitting) (maxL := 4) (ret := some .boolean) (by decide) rfl ?_
  intro p e s m args below meth c s₁ B hml hv
  have hv0 := hv
  obtain ⟨rfl, hsz, hP, -⟩ := hv
  subst hsz
  have C : CX g (AX g s.heap.size) p s m _ meth c cX11_fitting 4 RX11 := CX.of B hml (fun w h => List.mem_cons_of_mem _ h) rfl hv0
  have hr := B.returns
  have hS : va_S (AX g s.heap.size) s.heap s.heap [] := va_S.rf
  have hl := lv_entry ([.ref (g.2.2 0), .int x1]) (n := 4) (Nat.le_of_ble_eq_true rfl)
  rw [lg_entry_eq]
  generalize (lg_sl ([.ref (g.2.2 0), .int x1]) ++ List.replicate (4 - (lg_sl ([.ref (g.2.2 0), .int x1])).length) Slot.unset).toArray = ls at hl ⊢
  have hl : lv_has ls 4 [(0, .ref (g.2.2 0)), (1, .int x1)] := hl
  obtain ⟨H, hH⟩ : ∃ H, H = s.heap := ⟨_, rfl⟩
  have hP : va_P g.1 vwCl (wX g σ) H := by rw [hH]; exact hP
  have hS : va_S (AX g s.heap.size) s.heap H [] := by rw [hH]; exact hS
  refine wH hH ?_
  obtain ⟨locs, hlo⟩ : ∃ locs : List Loc, locs = [] := ⟨_, rfl⟩
  rw [← hlo] at hS
  refine wL hlo ?_
  unfold D_X11_fitting at hD
  refine lv_iconst (v := (0 : Int32)) C.1 C.2.1 dX11_fitting_0 (by decide) ?_
  refine lv_istore_n (lv' := [(2, .int (0 : Int32)), (0, .ref (g.2.2 0)), (1, .int x1)]) C.1 C.2.1 dX11_fitting_1 rfl hl (by decide) rfl (fun ls hl => ?_)
  exact w_L_X11_fitting_2 C hr N σ x1 N (0 : Int32) H locs ls (lv_sub hl [1, 2, 0] rfl) hP hS hD
end WLK
