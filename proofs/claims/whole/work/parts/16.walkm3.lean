section WLK
variable {p : Program} {l : Launch} {e : Env} {s : State} {m : MethodId} {args : Array Value} {below : List Frame} {meth : Method} {c : Code} {g : Gx} {A : Nat → Prop}
abbrev rm_X12_partsOf : Room := { frames := 5, cells := 0, slots := 0, locals := 124 }
set_option maxHeartbeats 4000000 in
set_option maxRecDepth 100000 in
theorem w_L_X12_partsOf_81 (C : CM g A p s m args meth c cX12_partsOf 5 RX12) (hr : meth.sig.returnType = some .int) (N : Nat) {h : Int64} {r : Int32} {u : St} (kc68 : Int32 → St → Option (Int32 × St)) (x2 : Int32) (x3 : Int32) (hk68 : ∀ (x3 : Int32) (σ : St) (H : Heap) (locs : List Loc) (ls : Array Slot), lv_has ls 5 [(0, .ref (g.2.2 31)), (2, .int x2), (3, .int x3)] → va_P g.1 vwCl (wM g h σ) H → va_S A s.heap H locs → kc68 x3 σ = some (r, u) → W p l e rm_X12_partsOf s m args below meth c H locs 0 0 (MQ below (QiM g h A r u) args s 0 0 A) (F0 m 68 ls [])) : ∀ (n : Nat) (x4 : Int32) (σ : St) (H : Heap) (locs : List Loc) (ls : Array Slot), lv_has ls 5 [(0, .ref (g.2.2 31)), (2, .int x2), (3, .int x3), (4, .int x4)] → va_P g.1 vwCl (wM g h σ) H → va_S A s.heap H locs → L_X12_partsOf_81 N kc68 x2 x3 n x4 σ = some (r, u) → W p l e rm_X12_partsOf s m args below meth c H locs 0 0 (MQ below (QiM g h A r u) args s 0 0 A) (F0 m 81 ls []) := by
  intro n
  induction n with
  | zero =>
    intro x4 σ H locs ls hl hP hS hD
    rw [L_X12_partsOf_81] at hD
    cases hD
  | succ n ih =>
    intro x4 σ H locs ls hl hP hS hD
    rw [L_X12_partsOf_81] at hD
    refine lv_iload C.1 C.2.1 dX12_partsOf_81 (lv_at hl 3 rfl) ?_
    refine lv_aload_n C.1 C.2.1 dX12_partsOf_83 rfl (lv_at hl 0 rfl) ?_
    refine gf_X12_90_31 C hP dX12_partsOf_84 ?_
    refine lv_icmp_ge (tgt := 126) C.1 C.2.1 dX12_partsOf_87 (by decide) (fun c6 => ?_) (fun c6 => ?_)
    · have hD := b_t c6 hD
      refine lv_iinc (v := x3 + (1 : Int32)) (lv' := [(3, .int (x3 + (1 : Int32))), (0, .ref (g.2.2 31)), (2, .int x2), (4, .int x4)]) C.1 C.2.1 dX12_partsOf_126 hl (k := 2) rfl rfl (by decide) rfl (fun ls hl => ?_)
      refine lv_goto (tgt := 68) C.1 C.2.1 dX12_partsOf_129 (by decide) ?_
      exact hk68 (x3 + (1 : Int32)) σ H locs ls (lv_sub hl [1, 2, 0] rfl) hP hS hD
    · have hD := b_f c6 hD
      refine lv_aload_n C.1 C.2.1 dX12_partsOf_90 rfl (lv_at hl 0 rfl) ?_
      refine lv_iload_n C.1 C.2.1 dX12_partsOf_91 rfl (lv_at hl 2 rfl) ?_
      refine lv_iload C.1 C.2.1 dX12_partsOf_92 (lv_at hl 3 rfl) ?_
      obtain ⟨r7, hd7, hD⟩ := bp_some hD
      refine kVi_M (As := [.int x3, .int x4]) (rest := []) (ci := 12) (q0 := 0) C (c_X12_isEnough l g H.size N σ x3 x4 hd7) kw_X12_203 ⟨rfl, rfl⟩ ⟨Nat.le_of_ble_eq_true rfl, Nat.le_of_ble_eq_true rfl⟩ kv_X12_isEnough rfl rfl rfl hl.1 (Nat.le_of_ble_eq_true rfl) ⟨Nat.zero_le _, Nat.zero_le _⟩ dX12_partsOf_94 hP hS rfl (fun H locs hP hS => ?_)
      refine lv_if_eq (tgt := 120) C.1 C.2.1 dX12_partsOf_97 (by decide) (fun c8 => ?_) (fun c8 => ?_)
      · have hD := b_t c8 hD
        refine lv_iinc (v := x4 + (1 : Int32)) (lv' := [(4, .int (x4 + (1 : Int32))), (0, .ref (g.2.2 31)), (2, .int x2), (3, .int x3)]) C.1 C.2.1 dX12_partsOf_120 hl (k := 3) rfl rfl (by decide) rfl (fun ls hl => ?_)
        refine lv_goto (tgt := 81) C.1 C.2.1 dX12_partsOf_123 (by decide) ?_
        exact ih (x4 + (1 : Int32)) σ H locs ls (lv_sub hl [1, 2, 3, 0] rfl) hP hS hD
      · have hD := b_f c8 hD
        refine lv_iload_n C.1 C.2.1 dX12_partsOf_100 rfl (lv_at hl 1 rfl) ?_
        refine lv_if_ne (tgt := 108) C.1 C.2.1 dX12_partsOf_101 (by decide) (fun c9 => ?_) (fun c9 => ?_)
        · have hD := b_f c9 hD
          refine lv_iload_n C.1 C.2.1 dX12_partsOf_108 rfl (lv_at hl 1 rfl) ?_
          refine lv_iconst (v := (1 : Int32)) C.1 C.2.1 dX12_partsOf_109 (by decide) ?_
          refine lv_icmp_ne (tgt := 117) C.1 C.2.1 dX12_partsOf_110 (by decide) (fun c10 => ?_) (fun c10 => ?_)
          · have hD := b_f c10 hD
            refine lv_iload C.1 C.2.1 dX12_partsOf_117 (lv_at hl 3 rfl) ?_
            cases hD
            exact ri_M C hr hP hS dX12_partsOf_119
          · have hD := b_t c10 hD
            refine lv_iload_n C.1 C.2.1 dX12_partsOf_113 rfl (lv_at hl 2 rfl) ?_
            refine lv_goto (tgt := 119) C.1 C.2.1 dX12_partsOf_114 (by decide) ?_
            cases hD
            exact ri_M C hr hP hS dX12_partsOf_119
        · have hD := b_t c9 hD
          refine lv_iconst (v := (2 : Int32)) C.1 C.2.1 dX12_partsOf_104 (by decide) ?_
          refine lv_goto (tgt := 119) C.1 C.2.1 dX12_partsOf_105 (by decide) ?_
          cases hD
          exact ri_M C hr hP hS dX12_partsOf_119
set_option maxHeartbeats 4000000 in
set_option maxRecDepth 100000 in
theorem w_L_X12_partsOf_68 (C : CM g A p s m args meth c cX12_partsOf 5 RX12) (hr : meth.sig.returnType = some .int) (N : Nat) {h : Int64} {r : Int32} {u : St} (x2 : Int32) : ∀ (n : Nat) (x3 : Int32) (σ : St) (H : Heap) (locs : List Loc) (ls : Array Slot), lv_has ls 5 [(0, .ref (g.2.2 31)), (2, .int x2), (3, .int x3)] → va_P g.1 vwCl (wM g h σ) H → va_S A s.heap H locs → L_X12_partsOf_68 N x2 n x3 σ = some (r, u) → W p l e rm_X12_partsOf s m args below meth c H locs 0 0 (MQ below (QiM g h A r u) args s 0 0 A) (F0 m 68 ls []) := by
  intro n
  induction n with
  | zero =>
    intro x3 σ H locs ls hl hP hS hD
    rw [L_X12_partsOf_68] at hD
    cases hD
  | succ n ih =>
    intro x3 σ H locs ls hl hP hS hD
    rw [L_X12_partsOf_68] at hD
    refine lv_iload_n C.1 C.2.1 dX12_partsOf_68 rfl (lv_at hl 2 rfl) ?_
    refine lv_aload_n C.1 C.2.1 dX12_partsOf_69 rfl (lv_at hl 0 rfl) ?_
    refine gf_X12_90_31 C hP dX12_partsOf_70 ?_
    refine lv_icmp_ge (tgt := 132) C.1 C.2.1 dX12_partsOf_73 (by decide) (fun c5 => ?_) (fun c5 => ?_)
    · have hD := b_t c5 hD
      refine lv_iconst (v := (-1 : Int32)) C.1 C.2.1 dX12_partsOf_132 (by decide) ?_
      cases hD
      exact ri_M C hr hP hS dX12_partsOf_133
    · have hD := b_f c5 hD
      refine lv_iload_n C.1 C.2.1 dX12_partsOf_76 rfl (lv_at hl 2 rfl) ?_
      refine lv_iconst (v := (1 : Int32)) C.1 C.2.1 dX12_partsOf_77 (by decide) ?_
      refine lv_iadd C.1 C.2.1 dX12_partsOf_78 ?_
      refine lv_istore (lv' := [(4, .int (x3 + (1 : Int32))), (0, .ref (g.2.2 31)), (2, .int x2), (3, .int x3)]) C.1 C.2.1 dX12_partsOf_79 hl (by decide) rfl (fun ls hl => ?_)
      exact w_L_X12_partsOf_81 C hr N (L_X12_partsOf_68 N x2 n) x2 x3 ih N (x3 + (1 : Int32)) σ H locs ls (lv_sub hl [1, 2, 3, 0] rfl) hP hS hD
set_option maxHeartbeats 4000000 in
set_option maxRecDepth 100000 in
theorem w_L_X12_partsOf_24 (C : CM g A p s m args meth c cX12_partsOf 5 RX12) (hr : meth.sig.returnType = some .int) (N : Nat) {h : Int64} {r : Int32} {u : St} (x2 : Int32) : ∀ (n : Nat) (x3 : Int32) (σ : St) (H : Heap) (locs : List Loc) (ls : Array Slot), lv_has ls 5 [(0, .ref (g.2.2 31)), (2, .int x2), (3, .int x3)] → va_P g.1 vwCl (wM g h σ) H → va_S A s.heap H locs → L_X12_partsOf_24 N x2 n x3 σ = some (r, u) → W p l e rm_X12_partsOf s m args below meth c H locs 0 0 (MQ below (QiM g h A r u) args s 0 0 A) (F0 m 24 ls []) := by
  intro n
  induction n with
  | zero =>
    intro x3 σ H locs ls hl hP hS hD
    rw [L_X12_partsOf_24] at hD
    cases hD
  | succ n ih =>
    intro x3 σ H locs ls hl hP hS hD
    rw [L_X12_partsOf_24] at hD
    refine lv_iload_n C.1 C.2.1 dX12_partsOf_24 rfl (lv_at hl 2 rfl) ?_
    refine lv_aload_n C.1 C.2.1 dX12_partsOf_25 rfl (lv_at hl 0 rfl) ?_
    refine gf_X12_90_31 C hP dX12_partsOf_26 ?_
    refine lv_icmp_ge (tgt := 66) C.1 C.2.1 dX12_partsOf_29 (by decide) (fun c4 => ?_) (fun c4 => ?_)
    · have hD := b_t c4 hD
      refine lv_iconst (v := (0 : Int32)) C.1 C.2.1 dX12_partsOf_66 (by decide) ?_
      refine lv_istore_n (lv' := [(3, .int (0 : Int32)), (0, .ref (g.2.2 31)), (2, .int x2)]) C.1 C.2.1 dX12_partsOf_67 rfl hl (by decide) rfl (fun ls hl => ?_)
      exact w_L_X12_partsOf_68 C hr N x2 N (0 : Int32) σ H locs ls (lv_sub hl [1, 2, 0] rfl) hP hS hD
    · have hD := b_f c4 hD
      refine lv_aload_n C.1 C.2.1 dX12_partsOf_32 rfl (lv_at hl 0 rfl) ?_
      refine lv_iload_n C.1 C.2.1 dX12_partsOf_33 rfl (lv_at hl 2 rfl) ?_
      refine lv_iload_n C.1 C.2.1 dX12_partsOf_34 rfl (lv_at hl 2 rfl) ?_
      obtain ⟨r11, hd11, hD⟩ := bp_some hD
      refine kVi_M (As := [.int x3, .int x3]) (rest := []) (ci := 12) (q0 := 0) C (c_X12_isEnough l g H.size N σ x3 x3 hd11) kw_X12_203 ⟨rfl, rfl⟩ ⟨Nat.le_of_ble_eq_true rfl, Nat.le_of_ble_eq_true rfl⟩ kv_X12_isEnough rfl rfl rfl hl.1 (Nat.le_of_ble_eq_true rfl) ⟨Nat.zero_le _, Nat.zero_le _⟩ dX12_partsOf_35 hP hS rfl (fun H locs hP hS => ?_)
      refine lv_if_eq (tgt := 60) C.1 C.2.1 dX12_partsOf_38 (by decide) (fun c12 => ?_) (fun c12 => ?_)
      · have hD := b_t c12 hD
        refine lv_iinc (v := x3 + (1 : Int32)) (lv' := [(3, .int (x3 + (1 : Int32))), (0, .ref (g.2.2 31)), (2, .int x2)]) C.1 C.2.1 dX12_partsOf_60 hl (k := 2) rfl rfl (by decide) rfl (fun ls hl => ?_)
        refine lv_goto (tgt := 24) C.1 C.2.1 dX12_partsOf_63 (by decide) ?_
        exact ih (x3 + (1 : Int32)) σ H locs ls (lv_sub hl [1, 2, 0] rfl) hP hS hD
      · have hD := b_f c12 hD
        refine lv_iload_n C.1 C.2.1 dX12_partsOf_41 rfl (lv_at hl 1 rfl) ?_
        refine lv_if_ne (tgt := 49) C.1 C.2.1 dX12_partsOf_42 (by decide) (fun c13 => ?_) (fun c13 => ?_)
        · have hD := b_f c13 hD
          refine lv_iload_n C.1 C.2.1 dX12_partsOf_49 rfl (lv_at hl 1 rfl) ?_
          refine lv_iconst (v := (1 : Int32)) C.1 C.2.1 dX12_partsOf_50 (by decide) ?_
          refine lv_icmp_ne (tgt := 58) C.1 C.2.1 dX12_partsOf_51 (by decide) (fun c14 => ?_) (fun c14 => ?_)
          · have hD := b_f c14 hD
            refine lv_iconst (v := (-1 : Int32)) C.1 C.2.1 dX12_partsOf_58 (by decide) ?_
            cases hD
            exact ri_M C hr hP hS dX12_partsOf_59
          · have hD := b_t c14 hD
            refine lv_iload_n C.1 C.2.1 dX12_partsOf_54 rfl (lv_at hl 2 rfl) ?_
            refine lv_goto (tgt := 59) C.1 C.2.1 dX12_partsOf_55 (by decide) ?_
            cases hD
            exact ri_M C hr hP hS dX12_partsOf_59
        · have hD := b_t c13 hD
          refine lv_iconst (v := (1 : Int32)) C.1 C.2.1 dX12_partsOf_45 (by decide) ?_
          refine lv_goto (tgt := 59) C.1 C.2.1 dX12_partsOf_46 (by decide) ?_
          cases hD
          exact ri_M C hr hP hS dX12_partsOf_59
set_option maxHeartbeats 4000000 in
set_option maxRecDepth 100000 in
theorem c_X12_partsOf (l : Launch) (g : Gx) (sz : Nat) (N : Nat) (σ : St) (x1 : Int32) (x2 : Int32) {h : Int64} {r : Int32} {u : St} (hD : D_X12_partsOf N σ x1 x2 = some (r, u)) : Met l yX12_partsOf (Cond.code yX12_partsOf cX12_partsOf 5 (some .int) :: tb) rm_X12_partsOf (PcM g h [.ref (g.2.2 31), .int x1, .int x2] σ sz) (QiM g h (AM g sz) r u) 0 0 (AM g sz) := by
  refine Met.ofW (cc := cX12_partsOf) (maxL := 5) (ret := some .int) (by decide) rfl ?_
  intro p e s m args below meth c s₁ B hml hv
  have hv0 := hv
  obtain ⟨rfl, hsz, hP, -⟩ := hv
  subst hsz
  have C : CM g (AM g s.heap.size) p s m _ meth c cX12_partsOf 5 RX12 := CM.of B hml (fun w h => List.mem_cons_of_mem _ h) rfl hv0
  have hr := B.returns
  have hS : va_S (AM g s.heap.size) s.heap s.heap [] := va_S.rf
  have hl := lv_entry ([.ref (g.2.2 31), .int x1, .int x2]) (n := 5) (Nat.le_of_ble_eq_true rfl)
  rw [lg_entry_eq]
  generalize (lg_sl ([.ref (g.2.2 31), .int x1, .int x2]) ++ List.replicate (5 - (lg_sl ([.ref (g.2.2 31), .int x1, .int x2])).length) Slot.unset).toArray = ls at hl ⊢
  have hl : lv_has ls 5 [(0, .ref (g.2.2 31)), (1, .int x1), (2, .int x2)] := hl
  obtain ⟨H, hH⟩ : ∃ H, H = s.heap := ⟨_, rfl⟩
  have hP : va_P g.1 vwCl (wM g h σ) H := by rw [hH]; exact hP
  have hS : va_S (AM g s.heap.size) s.heap H [] := by rw [hH]; exact hS
  refine wH hH ?_
  obtain ⟨locs, hlo⟩ : ∃ locs : List Loc, locs = [] := ⟨_, rfl⟩
  rw [← hlo] at hS
  refine wL hlo ?_
  unfold D_X12_partsOf at hD
  refine lv_aload_n C.1 C.2.1 dX12_partsOf_0 rfl (lv_at hl 0 rfl) ?_
  refine lv_iload_n C.1 C.2.1 dX12_partsOf_1 rfl (lv_at hl 1 rfl) ?_
  obtain ⟨s1, hd1, hD⟩ := bp_some hD
  refine kVv_M (As := [.int x1]) (rest := []) (ci := 12) (q0 := 0) C (c_X12_layTable l g H.size N σ x1 hd1) kw_X12_196 ⟨rfl, rfl⟩ ⟨Nat.le_of_ble_eq_true rfl, Nat.le_of_ble_eq_true rfl⟩ kv_X12_layTable rfl rfl rfl hl.1 (Nat.le_of_ble_eq_true rfl) ⟨Nat.zero_le _, Nat.zero_le _⟩ dX12_partsOf_2 hP hS rfl (fun H locs hP hS => ?_)
  refine lv_aload_n C.1 C.2.1 dX12_partsOf_5 rfl (lv_at hl 0 rfl) ?_
  obtain ⟨r2, hd2, hD⟩ := bp_some hD
  refine kVi_M (As := []) (rest := []) (ci := 12) (q0 := 0) C (c_X12_apartMany l g H.size N s1 hd2) kw_X12_200 ⟨rfl, rfl⟩ ⟨Nat.le_of_ble_eq_true rfl, Nat.le_of_ble_eq_true rfl⟩ kv_X12_apartMany rfl rfl rfl hl.1 (Nat.le_of_ble_eq_true rfl) ⟨Nat.zero_le _, Nat.zero_le _⟩ dX12_partsOf_6 hP hS rfl (fun H locs hP hS => ?_)
  refine lv_if_ne (tgt := 22) C.1 C.2.1 dX12_partsOf_9 (by decide) (fun c3 => ?_) (fun c3 => ?_)
  · have hD := b_f c3 hD
    refine lv_iconst (v := (0 : Int32)) C.1 C.2.1 dX12_partsOf_22 (by decide) ?_
    refine lv_istore_n (lv' := [(3, .int (0 : Int32)), (0, .ref (g.2.2 31)), (1, .int x1), (2, .int x2)]) C.1 C.2.1 dX12_partsOf_23 rfl hl (by decide) rfl (fun ls hl => ?_)
    exact w_L_X12_partsOf_24 C hr N x2 N (0 : Int32) s1 H locs ls (lv_sub hl [1, 3, 0] rfl) hP hS hD
  · have hD := b_t c3 hD
    refine lv_iload_n C.1 C.2.1 dX12_partsOf_12 rfl (lv_at hl 2 rfl) ?_
    refine lv_if_ne (tgt := 20) C.1 C.2.1 dX12_partsOf_13 (by decide) (fun c15 => ?_) (fun c15 => ?_)
    · have hD := b_f c15 hD
      refine lv_iconst (v := (-1 : Int32)) C.1 C.2.1 dX12_partsOf_20 (by decide) ?_
      cases hD
      exact ri_M C hr hP hS dX12_partsOf_21
    · have hD := b_t c15 hD
      refine lv_iconst (v := (0 : Int32)) C.1 C.2.1 dX12_partsOf_16 (by decide) ?_
      refine lv_goto (tgt := 21) C.1 C.2.1 dX12_partsOf_17 (by decide) ?_
      cases hD
      exact ri_M C hr hP hS dX12_partsOf_21
abbrev rm_X12_parts : Room := { frames := 6, cells := 0, slots := 0, locals := 148 }
set_option maxHeartbeats 4000000 in
set_option maxRecDepth 100000 in
theorem c_X12_parts (l : Launch) (g : Gx) (sz : Nat) (N : Nat) (σ : St) (x1 : Int32) (x2 : Int32) {h : Int64} {r : Int32} {u : St} (hD : D_X12_parts N σ x1 x2 = some (r, u)) : Met l yX12_parts (Cond.code yX12_parts cX12_parts 3 (some .int) :: tb) rm_X12_parts (PcM g h [.ref (g.2.2 31), .int x1, .int x2] σ sz) (QiM g h (AM g sz) r u) 0 0 (AM g sz) := by
  refine Met.ofW (cc := cX12_parts) (maxL := 3) (ret := some .int) (by decide) rfl ?_
  intro p e s m args below meth c s₁ B hml hv
  have hv0 := hv
  obtain ⟨rfl, hsz, hP, -⟩ := hv
  subst hsz
  have C : CM g (AM g s.heap.size) p s m _ meth c cX12_parts 3 RX12 := CM.of B hml (fun w h => List.mem_cons_of_mem _ h) rfl hv0
  have hr := B.returns
  have hS : va_S (AM g s.heap.size) s.heap s.heap [] := va_S.rf
  have hl := lv_entry ([.ref (g.2.2 31), .int x1, .int x2]) (n := 3) (Nat.le_of_ble_eq_true rfl)
  rw [lg_entry_eq]
  generalize (lg_sl ([.ref (g.2.2 31), .int x1, .int x2]) ++ List.replicate (3 - (lg_sl ([.ref (g.2.2 31), .int x1, .int x2])).length) Slot.unset).toArray = ls at hl ⊢
  have hl : lv_has ls 3 [(0, .ref (g.2.2 31)), (1, .int x1), (2, .int x2)] := hl
  obtain ⟨H, hH⟩ : ∃ H, H = s.heap := ⟨_, rfl⟩
  have hP : va_P g.1 vwCl (wM g h σ) H := by rw [hH]; exact hP
  have hS : va_S (AM g s.heap.size) s.heap H [] := by rw [hH]; exact hS
  refine wH hH ?_
  obtain ⟨locs, hlo⟩ : ∃ locs : List Loc, locs = [] := ⟨_, rfl⟩
  rw [← hlo] at hS
  refine wL hlo ?_
  unfold D_X12_parts at hD
  refine lv_aload_n C.1 C.2.1 dX12_parts_0 rfl (lv_at hl 0 rfl) ?_
  refine lv_iload_n C.1 C.2.1 dX12_parts_1 rfl (lv_at hl 1 rfl) ?_
  obtain ⟨r1, hd1, hD⟩ := bp_some hD
  refine kVi_M (As := [.int x1]) (rest := []) (ci := 12) (q0 := 0) C (c_X12_isJudge l g H.size σ x1 hd1) kw_X12_110 ⟨rfl, rfl⟩ ⟨Nat.le_of_ble_eq_true rfl, Nat.le_of_ble_eq_true rfl⟩ kv_X12_isJudge rfl rfl rfl hl.1 (Nat.le_of_ble_eq_true rfl) ⟨Nat.zero_le _, Nat.zero_le _⟩ dX12_parts_2 hP hS rfl (fun H locs hP hS => ?_)
  refine lv_if_ne (tgt := 11) C.1 C.2.1 dX12_parts_5 (by decide) (fun c2 => ?_) (fun c2 => ?_)
  · have hD := b_f c2 hD
    refine lv_iload_n C.1 C.2.1 dX12_parts_11 rfl (lv_at hl 2 rfl) ?_
    refine lv_i2l C.1 C.2.1 dX12_parts_12 rfl ?_
    refine lv_lconst (v := (0 : Int64)) C.1 C.2.1 dX12_parts_13 (by decide) ?_
    refine lv_ldc2 (v := (2 : Int64)) (own := RX12) C.1 C.2.1 C.2.2.2.1 (C.2.2.2.2.1 (.constantLong RX12 159 (2 : Int64)) (tb_in 1007 (by decide +kernel) (by decide +kernel))) dX12_parts_14 ?_
    obtain ⟨r3, hd3, hD⟩ := bp_some hD
    refine kSi_M (As := [.long x2.toInt64, .long (0 : Int64), .long (2 : Int64)]) (rest := []) C (c_X12_in l g H.size σ x2.toInt64 (0 : Int64) (2 : Int64) hd3) kw_X12_46 ⟨rfl, rfl⟩ ⟨Nat.le_of_ble_eq_true rfl, Nat.le_of_ble_eq_true rfl⟩ ks_X12_in rfl hl.1 (Nat.le_of_ble_eq_true rfl) ⟨Nat.zero_le _, Nat.zero_le _⟩ dX12_parts_17 hP hS rfl (fun H locs hP hS => ?_)
    refine lv_if_ne (tgt := 26) C.1 C.2.1 dX12_parts_20 (by decide) (fun c4 => ?_) (fun c4 => ?_)
    · have hD := b_f c4 hD
      refine lv_aload_n C.1 C.2.1 dX12_parts_26 rfl (lv_at hl 0 rfl) ?_
      refine gf_X12_90_31 C hP dX12_parts_27 ?_
      refine lv_bipush (v := (64 : Int32)) C.1 C.2.1 dX12_parts_30 (by decide) ?_
      refine lv_icmp_gt (tgt := 44) C.1 C.2.1 dX12_parts_32 (by decide) (fun c5 => ?_) (fun c5 => ?_)
      · have hD := b_t c5 hD
        refine lv_bipush (v := (-103 : Int32)) C.1 C.2.1 dX12_parts_44 (by decide) ?_
        cases hD
        exact ri_M C hr hP hS dX12_parts_46
      · have hD := b_f c5 hD
        refine lv_aload_n C.1 C.2.1 dX12_parts_35 rfl (lv_at hl 0 rfl) ?_
        refine gf_X12_207_31 C hP dX12_parts_36 ?_
        refine lv_bipush (v := (9 : Int32)) C.1 C.2.1 dX12_parts_39 (by decide) ?_
        refine lv_icmp_ne (tgt := 47) C.1 C.2.1 dX12_parts_41 (by decide) (fun c6 => ?_) (fun c6 => ?_)
        · have hD := b_f c6 hD
          refine lv_aload_n C.1 C.2.1 dX12_parts_47 rfl (lv_at hl 0 rfl) ?_
          refine lv_dup C.1 C.2.1 dX12_parts_48 rfl ?_
          refine gf_X12_207_31 C hP dX12_parts_49 ?_
          refine lv_iconst (v := (1 : Int32)) C.1 C.2.1 dX12_parts_52 (by decide) ?_
          refine lv_iadd C.1 C.2.1 dX12_parts_53 ?_
          refine pf_X12_207_31 C hP hS dX12_parts_54 (fun H locs hP hS => ?_)
          refine lv_aload_n C.1 C.2.1 dX12_parts_57 rfl (lv_at hl 0 rfl) ?_
          refine lv_aload_n C.1 C.2.1 dX12_parts_58 rfl (lv_at hl 0 rfl) ?_
          refine gf_X12_13_31 C hP dX12_parts_59 ?_
          refine lv_iload_n C.1 C.2.1 dX12_parts_62 rfl (lv_at hl 1 rfl) ?_
          obtain ⟨hi7, hD⟩ := gi_some hD
          refine iaM C hP 2 rfl hi7 dX12_parts_63 ?_
          refine w_rd (show (pt σ 31 17 ((σ 31 17) + (1 : Int32))) 33 (x1.toNatClampNeg) = σ 33 x1.toNatClampNeg from rfl) ?_
          refine lv_iload_n C.1 C.2.1 dX12_parts_64 rfl (lv_at hl 2 rfl) ?_
          obtain ⟨r8, s8, hd8, hD⟩ := bs_some hD
          refine kVi_M (As := [.int (σ 33 x1.toNatClampNeg), .int x2]) (rest := []) (ci := 12) (q0 := 0) C (c_X12_partsOf l g H.size N (pt σ 31 17 ((σ 31 17) + (1 : Int32))) (σ 33 x1.toNatClampNeg) x2 hd8) kw_X12_210 ⟨rfl, rfl⟩ ⟨Nat.le_of_ble_eq_true rfl, Nat.le_of_ble_eq_true rfl⟩ kv_X12_partsOf rfl rfl rfl hl.1 (Nat.le_of_ble_eq_true rfl) ⟨Nat.zero_le _, Nat.zero_le _⟩ dX12_parts_65 hP hS rfl (fun H locs hP hS => ?_)
          cases hD
          exact ri_M C hr hP hS dX12_parts_68
        · have hD := b_t c6 hD
          refine lv_bipush (v := (-103 : Int32)) C.1 C.2.1 dX12_parts_44 (by decide) ?_
          cases hD
          exact ri_M C hr hP hS dX12_parts_46
    · have hD := b_t c4 hD
      refine lv_bipush (v := (-102 : Int32)) C.1 C.2.1 dX12_parts_23 (by decide) ?_
      cases hD
      exact ri_M C hr hP hS dX12_parts_25
  · have hD := b_t c2 hD
    refine lv_bipush (v := (-101 : Int32)) C.1 C.2.1 dX12_parts_8 (by decide) ?_
    cases hD
    exact ri_M C hr hP hS dX12_parts_10
abbrev rm_X12_rest : Room := { frames := 6, cells := 0, slots := 0, locals := 146 }
set_option maxHeartbeats 4000000 in
set_option maxRecDepth 100000 in
theorem c_X12_rest (l : Launch) (g : Gx) (sz : Nat) (N : Nat) (σ : St) (x1 : Int32) (x2 : Int32) (x3 : Int32) {h : Int64} {r : Int32} {u : St} (hD : D_X12_rest N σ x1 x2 x3 = some (r, u)) : Met l yX12_rest (Cond.code yX12_rest cX12_rest 4 (some .int) :: tb) rm_X12_rest (PcM g h [.ref (g.2.2 31), .int x1, .int x2, .int x3] σ sz) (QiM g h (AM g sz) r u) 0 0 (AM g sz) := by
  refine Met.ofW (cc := cX12_rest) (maxL := 4) (ret := some .int) (by decide) rfl ?_
  intro p e s m args below meth c s₁ B hml hv
  have hv0 := hv
  obtain ⟨rfl, hsz, hP, -⟩ := hv
  subst hsz
  have C : CM g (AM g s.heap.size) p s m _ meth c cX12_rest 4 RX12 := CM.of B hml (fun w h => List.mem_cons_of_mem _ h) rfl hv0
  have hr := B.returns
  have hS : va_S (AM g s.heap.size) s.heap s.heap [] := va_S.rf
  have hl := lv_entry ([.ref (g.2.2 31), .int x1, .int x2, .int x3]) (n := 4) (Nat.le_of_ble_eq_true rfl)
  rw [lg_entry_eq]
  generalize (lg_sl ([.ref (g.2.2 31), .int x1, .int x2, .int x3]) ++ List.replicate (4 - (lg_sl ([.ref (g.2.2 31), .int x1, .int x2, .int x3])).length) Slot.unset).toArray = ls at hl ⊢
  have hl : lv_has ls 4 [(0, .ref (g.2.2 31)), (1, .int x1), (2, .int x2), (3, .int x3)] := hl
  obtain ⟨H, hH⟩ : ∃ H, H = s.heap := ⟨_, rfl⟩
  have hP : va_P g.1 vwCl (wM g h σ) H := by rw [hH]; exact hP
  have hS : va_S (AM g s.heap.size) s.heap H [] := by rw [hH]; exact hS
  refine wH hH ?_
  obtain ⟨locs, hlo⟩ : ∃ locs : List Loc, locs = [] := ⟨_, rfl⟩
  rw [← hlo] at hS
  refine wL hlo ?_
  unfold D_X12_rest at hD
  refine lv_aload_n C.1 C.2.1 dX12_rest_0 rfl (lv_at hl 0 rfl) ?_
  refine lv_iload_n C.1 C.2.1 dX12_rest_1 rfl (lv_at hl 1 rfl) ?_
  obtain ⟨r1, hd1, hD⟩ := bp_some hD
  refine kVi_M (As := [.int x1]) (rest := []) (ci := 12) (q0 := 0) C (c_X12_isRow l g H.size σ x1 hd1) kw_X12_113 ⟨rfl, rfl⟩ ⟨Nat.le_of_ble_eq_true rfl, Nat.le_of_ble_eq_true rfl⟩ kv_X12_isRow rfl rfl rfl hl.1 (Nat.le_of_ble_eq_true rfl) ⟨Nat.zero_le _, Nat.zero_le _⟩ dX12_rest_2 hP hS rfl (fun H locs hP hS => ?_)
  refine lv_if_eq (tgt := 16) C.1 C.2.1 dX12_rest_5 (by decide) (fun c2 => ?_) (fun c2 => ?_)
  · have hD := b_t c2 hD
    refine lv_bipush (v := (-101 : Int32)) C.1 C.2.1 dX12_rest_16 (by decide) ?_
    cases hD
    exact ri_M C hr hP hS dX12_rest_18
  · have hD := b_f c2 hD
    refine lv_aload_n C.1 C.2.1 dX12_rest_8 rfl (lv_at hl 0 rfl) ?_
    refine lv_iload_n C.1 C.2.1 dX12_rest_9 rfl (lv_at hl 2 rfl) ?_
    obtain ⟨r3, hd3, hD⟩ := bp_some hD
    refine kVi_M (As := [.int x2]) (rest := []) (ci := 12) (q0 := 0) C (c_X12_isJudge l g H.size σ x2 hd3) kw_X12_110 ⟨rfl, rfl⟩ ⟨Nat.le_of_ble_eq_true rfl, Nat.le_of_ble_eq_true rfl⟩ kv_X12_isJudge rfl rfl rfl hl.1 (Nat.le_of_ble_eq_true rfl) ⟨Nat.zero_le _, Nat.zero_le _⟩ dX12_rest_10 hP hS rfl (fun H locs hP hS => ?_)
    refine lv_if_ne (tgt := 19) C.1 C.2.1 dX12_rest_13 (by decide) (fun c4 => ?_) (fun c4 => ?_)
    · have hD := b_f c4 hD
      refine lv_iload_n C.1 C.2.1 dX12_rest_19 rfl (lv_at hl 3 rfl) ?_
      refine lv_i2l C.1 C.2.1 dX12_rest_20 rfl ?_
      refine lv_lconst (v := (0 : Int64)) C.1 C.2.1 dX12_rest_21 (by decide) ?_
      refine lv_lconst (v := (1 : Int64)) C.1 C.2.1 dX12_rest_22 (by decide) ?_
      obtain ⟨r5, hd5, hD⟩ := bp_some hD
      refine kSi_M (As := [.long x3.toInt64, .long (0 : Int64), .long (1 : Int64)]) (rest := []) C (c_X12_in l g H.size σ x3.toInt64 (0 : Int64) (1 : Int64) hd5) kw_X12_46 ⟨rfl, rfl⟩ ⟨Nat.le_of_ble_eq_true rfl, Nat.le_of_ble_eq_true rfl⟩ ks_X12_in rfl hl.1 (Nat.le_of_ble_eq_true rfl) ⟨Nat.zero_le _, Nat.zero_le _⟩ dX12_rest_23 hP hS rfl (fun H locs hP hS => ?_)
      refine lv_if_eq (tgt := 39) C.1 C.2.1 dX12_rest_26 (by decide) (fun c6 => ?_) (fun c6 => ?_)
      · have hD := b_t c6 hD
        refine lv_bipush (v := (-102 : Int32)) C.1 C.2.1 dX12_rest_39 (by decide) ?_
        cases hD
        exact ri_M C hr hP hS dX12_rest_41
      · have hD := b_f c6 hD
        refine lv_aload_n C.1 C.2.1 dX12_rest_29 rfl (lv_at hl 0 rfl) ?_
        refine lv_iload_n C.1 C.2.1 dX12_rest_30 rfl (lv_at hl 1 rfl) ?_
        refine lv_iload_n C.1 C.2.1 dX12_rest_31 rfl (lv_at hl 2 rfl) ?_
        refine lv_iload_n C.1 C.2.1 dX12_rest_32 rfl (lv_at hl 3 rfl) ?_
        obtain ⟨r7, s7, hd7, hD⟩ := bs_some hD
        refine kVi_M (As := [.int x1, .int x2, .int x3]) (rest := []) (ci := 12) (q0 := 0) C (c_X12_restOf l g H.size N σ x1 x2 x3 hd7) kw_X12_183 ⟨rfl, rfl⟩ ⟨Nat.le_of_ble_eq_true rfl, Nat.le_of_ble_eq_true rfl⟩ kv_X12_restOf rfl rfl rfl hl.1 (Nat.le_of_ble_eq_true rfl) ⟨Nat.zero_le _, Nat.zero_le _⟩ dX12_rest_33 hP hS rfl (fun H locs hP hS => ?_)
        refine lv_goto (tgt := 41) C.1 C.2.1 dX12_rest_36 (by decide) ?_
        cases hD
        exact ri_M C hr hP hS dX12_rest_41
    · have hD := b_t c4 hD
      refine lv_bipush (v := (-101 : Int32)) C.1 C.2.1 dX12_rest_16 (by decide) ?_
      cases hD
      exact ri_M C hr hP hS dX12_rest_18
abbrev rm_X12_restore : Room := { frames := 1, cells := 0, slots := 0, locals := 22 }
set_option maxHeartbeats 4000000 in
set_option maxRecDepth 100000 in
theorem c_X12_restore (l : Launch) (g : Gx) (sz : Nat) (N : Nat) (σ : St) {h : Int64} {r : Int32} {u : St} (hD : D_X12_restore N σ = some (r, u)) : Met l yX12_restore (Cond.code yX12_restore cX12_restore 1 (some .int) :: tb) rm_X12_restore (PcM g h [.ref (g.2.2 31)] σ sz) (QiM g h (AM g sz) r u) 0 0 (AM g sz) := by
  refine Met.ofW (cc := cX12_restore) (maxL := 1) (ret := some .int) (by decide) rfl ?_
  intro p e s m args below meth c s₁ B hml hv
  have hv0 := hv
  obtain ⟨rfl, hsz, hP, -⟩ := hv
  subst hsz
  have C : CM g (AM g s.heap.size) p s m _ meth c cX12_restore 1 RX12 := CM.of B hml (fun w h => List.mem_cons_of_mem _ h) rfl hv0
  have hr := B.returns
  have hS : va_S (AM g s.heap.size) s.heap s.heap [] := va_S.rf
  have hl := lv_entry ([.ref (g.2.2 31)]) (n := 1) (Nat.le_of_ble_eq_true rfl)
  rw [lg_entry_eq]
  generalize (lg_sl ([.ref (g.2.2 31)]) ++ List.replicate (1 - (lg_sl ([.ref (g.2.2 31)])).length) Slot.unset).toArray = ls at hl ⊢
  have hl : lv_has ls 1 [(0, .ref (g.2.2 31))] := hl
  obtain ⟨H, hH⟩ : ∃ H, H = s.heap := ⟨_, rfl⟩
  have hP : va_P g.1 vwCl (wM g h σ) H := by rw [hH]; exact hP
  have hS : va_S (AM g s.heap.size) s.heap H [] := by rw [hH]; exact hS
  refine wH hH ?_
  obtain ⟨locs, hlo⟩ : ∃ locs : List Loc, locs = [] := ⟨_, rfl⟩
  rw [← hlo] at hS
  refine wL hlo ?_
  unfold D_X12_restore at hD
  refine lv_aload_n C.1 C.2.1 dX12_restore_0 rfl (lv_at hl 0 rfl) ?_
  refine gf_X12_37_31 C hP dX12_restore_1 ?_
  refine lv_aload_n C.1 C.2.1 dX12_restore_4 rfl (lv_at hl 0 rfl) ?_
  refine gf_X12_96_31 C hP dX12_restore_5 ?_
  refine lv_icmp_eq (tgt := 14) C.1 C.2.1 dX12_restore_8 (by decide) (fun c1 => ?_) (fun c1 => ?_)
  · have hD := b_t c1 hD
    refine lv_aload_n C.1 C.2.1 dX12_restore_14 rfl (lv_at hl 0 rfl) ?_
    refine gf_X12_31_31 C hP dX12_restore_15 ?_
    refine lv_aload_n C.1 C.2.1 dX12_restore_18 rfl (lv_at hl 0 rfl) ?_
    refine gf_X12_13_31 C hP dX12_restore_19 ?_
    obtain ⟨s2, hd2, hD⟩ := bp_some hD
    refine kSv_M (As := [.ref (g.2.2 39), .ref (g.2.2 33)]) (rest := []) C (c_X12_copy_k2 l g H.size N σ hd2) kw_X12_234 ⟨rfl, rfl⟩ ⟨Nat.le_of_ble_eq_true rfl, Nat.le_of_ble_eq_true rfl⟩ ks_X12_copy rfl hl.1 (Nat.le_of_ble_eq_true rfl) ⟨Nat.zero_le _, Nat.zero_le _⟩ dX12_restore_22 hP hS rfl (fun H locs hP hS => ?_)
    refine lv_aload_n C.1 C.2.1 dX12_restore_25 rfl (lv_at hl 0 rfl) ?_
    refine gf_X12_34_31 C hP dX12_restore_26 ?_
    refine lv_aload_n C.1 C.2.1 dX12_restore_29 rfl (lv_at hl 0 rfl) ?_
    refine gf_X12_16_31 C hP dX12_restore_30 ?_
    obtain ⟨s3, hd3, hD⟩ := bp_some hD
    refine kSv_M (As := [.ref (g.2.2 40), .ref (g.2.2 34)]) (rest := []) C (c_X12_copy_s2 l g H.size N s2 hd3) kw_X12_234 ⟨rfl, rfl⟩ ⟨Nat.le_of_ble_eq_true rfl, Nat.le_of_ble_eq_true rfl⟩ ks_X12_copy rfl hl.1 (Nat.le_of_ble_eq_true rfl) ⟨Nat.zero_le _, Nat.zero_le _⟩ dX12_restore_33 hP hS rfl (fun H locs hP hS => ?_)
    refine lv_aload_n C.1 C.2.1 dX12_restore_36 rfl (lv_at hl 0 rfl) ?_
    refine lv_aload_n C.1 C.2.1 dX12_restore_37 rfl (lv_at hl 0 rfl) ?_
    refine gf_X12_238_31 C hP dX12_restore_38 ?_
    refine pf_X12_41_31 C hP hS dX12_restore_41 (fun H locs hP hS => ?_)
    refine lv_aload_n C.1 C.2.1 dX12_restore_44 rfl (lv_at hl 0 rfl) ?_
    refine lv_aload_n C.1 C.2.1 dX12_restore_45 rfl (lv_at hl 0 rfl) ?_
    refine gf_X12_241_31 C hP dX12_restore_46 ?_
    refine w_rd (show (pt s3 31 7 (s3 31 22)) 31 23 = s3 31 23 from rfl) ?_
    refine pf_X12_93_31 C hP hS dX12_restore_49 (fun H locs hP hS => ?_)
    refine lv_aload_n C.1 C.2.1 dX12_restore_52 rfl (lv_at hl 0 rfl) ?_
    refine gf_X12_93_31 C hP dX12_restore_53 ?_
    refine w_rd (show (pt (pt s3 31 7 (s3 31 22)) 31 8 (s3 31 23)) 31 8 = s3 31 23 from rfl) ?_
    cases hD
    exact ri_M C hr hP hS dX12_restore_56
  · have hD := b_f c1 hD
    refine lv_bipush (v := (-103 : Int32)) C.1 C.2.1 dX12_restore_11 (by decide) ?_
    cases hD
    exact ri_M C hr hP hS dX12_restore_13
abbrev rm_X12_tellRow : Room := { frames := 4, cells := 0, slots := 0, locals := 98 }
set_option maxHeartbeats 4000000 in
set_option maxRecDepth 100000 in
theorem w_J_X12_tellRow_50 (C : CM g A p s m args meth c cX12_tellRow 3 RX12) (hr : meth.sig.returnType = some .int) (N : Nat) (σ : St) {h : Int64} {r : Int32} (x1 : Int32) (x2 : Int32) : ∀  (H : Heap) (locs : List Loc) (ls : Array Slot), lv_has ls 3 [(0, .ref (g.2.2 31)), (1, .int x1), (2, .int x2)] → va_P g.1 vwCl (wM g h σ) H → va_S A s.heap H locs → J_X12_tellRow_50 N σ x1 x2 = some r → W p l e rm_X12_tellRow s m args below meth c H locs 0 0 (MQ below (QiM g h A r σ) args s 0 0 A) (F0 m 50 ls []) := by
  intro  H locs ls hl hP hS hD
  unfold J_X12_tellRow_50 at hD
  refine lv_iload_n C.1 C.2.1 dX12_tellRow_50 rfl (lv_at hl 2 rfl) ?_
  refine lv_iconst (v := (1 : Int32)) C.1 C.2.1 dX12_tellRow_51 (by decide) ?_
  refine lv_isub C.1 C.2.1 dX12_tellRow_52 ?_
  refine lv_aload_n C.1 C.2.1 dX12_tellRow_53 rfl (lv_at hl 0 rfl) ?_
  refine gf_X12_81_31 C hP dX12_tellRow_54 ?_
  refine lv_icmp_ge (tgt := 71) C.1 C.2.1 dX12_tellRow_57 (by decide) (fun c5 => ?_) (fun c5 => ?_)
  · have hD := b_t c5 hD
    refine lv_iconst (v := (-1 : Int32)) C.1 C.2.1 dX12_tellRow_71 (by decide) ?_
    cases hD
    exact ri_M C hr hP hS dX12_tellRow_72
  · have hD := b_f c5 hD
    refine lv_aload_n C.1 C.2.1 dX12_tellRow_60 rfl (lv_at hl 0 rfl) ?_
    refine lv_iload_n C.1 C.2.1 dX12_tellRow_61 rfl (lv_at hl 1 rfl) ?_
    refine lv_iload_n C.1 C.2.1 dX12_tellRow_62 rfl (lv_at hl 2 rfl) ?_
    refine lv_iconst (v := (1 : Int32)) C.1 C.2.1 dX12_tellRow_63 (by decide) ?_
    refine lv_isub C.1 C.2.1 dX12_tellRow_64 ?_
    obtain ⟨r6, hd6, hD⟩ := bp_some hD
    refine kVi_M (As := [.int x1, .int (x2 - (1 : Int32))]) (rest := []) (ci := 12) (q0 := 0) C (c_X12_peg l g H.size N σ x1 (x2 - (1 : Int32)) hd6) kw_X12_99 ⟨rfl, rfl⟩ ⟨Nat.le_of_ble_eq_true rfl, Nat.le_of_ble_eq_true rfl⟩ kv_X12_peg rfl rfl rfl hl.1 (Nat.le_of_ble_eq_true rfl) ⟨Nat.zero_le _, Nat.zero_le _⟩ dX12_tellRow_65 hP hS rfl (fun H locs hP hS => ?_)
    refine lv_goto (tgt := 72) C.1 C.2.1 dX12_tellRow_68 (by decide) ?_
    cases hD
    exact ri_M C hr hP hS dX12_tellRow_72
set_option maxHeartbeats 4000000 in
set_option maxRecDepth 100000 in
theorem c_X12_tellRow (l : Launch) (g : Gx) (sz : Nat) (N : Nat) (σ : St) (x1 : Int32) (x2 : Int32) {h : Int64} {r : Int32} (hD : D_X12_tellRow N σ x1 x2 = some r) : Met l yX12_tellRow (Cond.code yX12_tellRow cX12_tellRow 3 (some .int) :: tb) rm_X12_tellRow (PcM g h [.ref (g.2.2 31), .int x1, .int x2] σ sz) (QiM g h (AM g sz) r σ) 0 0 (AM g sz) := by
  refine Met.ofW (cc := cX12_tellRow) (maxL := 3) (ret := some .int) (by decide) rfl ?_
  intro p e s m args below meth c s₁ B hml hv
  have hv0 := hv
  obtain ⟨rfl, hsz, hP, -⟩ := hv
  subst hsz
  have C : CM g (AM g s.heap.size) p s m _ meth c cX12_tellRow 3 RX12 := CM.of B hml (fun w h => List.mem_cons_of_mem _ h) rfl hv0
  have hr := B.returns
  have hS : va_S (AM g s.heap.size) s.heap s.heap [] := va_S.rf
  have hl := lv_entry ([.ref (g.2.2 31), .int x1, .int x2]) (n := 3) (Nat.le_of_ble_eq_true rfl)
  rw [lg_entry_eq]
  generalize (lg_sl ([.ref (g.2.2 31), .int x1, .int x2]) ++ List.replicate (3 - (lg_sl ([.ref (g.2.2 31), .int x1, .int x2])).length) Slot.unset).toArray = ls at hl ⊢
  have hl : lv_has ls 3 [(0, .ref (g.2.2 31)), (1, .int x1), (2, .int x2)] := hl
  obtain ⟨H, hH⟩ : ∃ H, H = s.heap := ⟨_, rfl⟩
  have hP : va_P g.1 vwCl (wM g h σ) H := by rw [hH]; exact hP
  have hS : va_S (AM g s.heap.size) s.heap H [] := by rw [hH]; exact hS
  refine wH hH ?_
  obtain ⟨locs, hlo⟩ : ∃ locs : List Loc, locs = [] := ⟨_, rfl⟩
  rw [← hlo] at hS
  refine wL hlo ?_
  unfold D_X12_tellRow at hD
  refine lv_iload_n C.1 C.2.1 dX12_tellRow_0 rfl (lv_at hl 2 rfl) ?_
  by_cases c1 : x2 = (0 : Int32)
  · have hD := b_t c1 hD
    refine lv_tableIn (off := 35) (tgt := 36) C.1 C.2.1 dX12_tellRow_1 (by rw [c1]; decide) (by rw [c1]; decide) (by rw [c1]; rfl) (by decide) ?_
    refine lv_aload_n C.1 C.2.1 dX12_tellRow_36 rfl (lv_at hl 0 rfl) ?_
    refine lv_iload_n C.1 C.2.1 dX12_tellRow_37 rfl (lv_at hl 1 rfl) ?_
    obtain ⟨r2, hd2, hD⟩ := bp_some hD
    refine kVi_M (As := [.int x1]) (rest := []) (ci := 12) (q0 := 0) C (c_X12_isFit l g H.size N σ x1 hd2) kw_X12_120 ⟨rfl, rfl⟩ ⟨Nat.le_of_ble_eq_true rfl, Nat.le_of_ble_eq_true rfl⟩ kv_X12_isFit rfl rfl rfl hl.1 (Nat.le_of_ble_eq_true rfl) ⟨Nat.zero_le _, Nat.zero_le _⟩ dX12_tellRow_38 hP hS rfl (fun H locs hP hS => ?_)
    refine lv_if_eq (tgt := 48) C.1 C.2.1 dX12_tellRow_41 (by decide) (fun c3 => ?_) (fun c3 => ?_)
    · have hD := b_t c3 hD
      refine lv_iconst (v := (0 : Int32)) C.1 C.2.1 dX12_tellRow_48 (by decide) ?_
      cases hD
      exact ri_M C hr hP hS dX12_tellRow_49
    · have hD := b_f c3 hD
      refine lv_iconst (v := (1 : Int32)) C.1 C.2.1 dX12_tellRow_44 (by decide) ?_
      refine lv_goto (tgt := 49) C.1 C.2.1 dX12_tellRow_45 (by decide) ?_
      cases hD
      exact ri_M C hr hP hS dX12_tellRow_49
  · have hD := b_f c1 hD
    by_cases c4 : x2 = (1 : Int32)
    · have hD := b_t c4 hD
      refine lv_tableIn (off := 49) (tgt := 50) C.1 C.2.1 dX12_tellRow_1 (by rw [c4]; decide) (by rw [c4]; decide) (by rw [c4]; rfl) (by decide) ?_
      exact w_J_X12_tellRow_50 C hr N σ x1 x2 H locs ls (lv_sub hl [0, 1, 2] rfl) hP hS hD
    · have hD := b_f c4 hD
      by_cases c7 : x2 = (2 : Int32)
      · have hD := b_t c7 hD
        refine lv_tableIn (off := 49) (tgt := 50) C.1 C.2.1 dX12_tellRow_1 (by rw [c7]; decide) (by rw [c7]; decide) (by rw [c7]; rfl) (by decide) ?_
        exact w_J_X12_tellRow_50 C hr N σ x1 x2 H locs ls (lv_sub hl [0, 1, 2] rfl) hP hS hD
      · have hD := b_f c7 hD
        by_cases c8 : x2 = (3 : Int32)
        · have hD := b_t c8 hD
          refine lv_tableIn (off := 49) (tgt := 50) C.1 C.2.1 dX12_tellRow_1 (by rw [c8]; decide) (by rw [c8]; decide) (by rw [c8]; rfl) (by decide) ?_
          exact w_J_X12_tellRow_50 C hr N σ x1 x2 H locs ls (lv_sub hl [0, 1, 2] rfl) hP hS hD
        · have hD := b_f c8 hD
          by_cases c9 : x2 = (4 : Int32)
          · have hD := b_t c9 hD
            refine lv_tableIn (off := 72) (tgt := 73) C.1 C.2.1 dX12_tellRow_1 (by rw [c9]; decide) (by rw [c9]; decide) (by rw [c9]; rfl) (by decide) ?_
            refine lv_iload_n C.1 C.2.1 dX12_tellRow_73 rfl (lv_at hl 1 rfl) ?_
            refine lv_aload_n C.1 C.2.1 dX12_tellRow_74 rfl (lv_at hl 0 rfl) ?_
            refine gf_X12_41_31 C hP dX12_tellRow_75 ?_
            refine lv_icmp_ne (tgt := 85) C.1 C.2.1 dX12_tellRow_78 (by decide) (fun c10 => ?_) (fun c10 => ?_)
            · have hD := b_f c10 hD
              refine lv_iconst (v := (0 : Int32)) C.1 C.2.1 dX12_tellRow_85 (by decide) ?_
              cases hD
              exact ri_M C hr hP hS dX12_tellRow_86
            · have hD := b_t c10 hD
              refine lv_iconst (v := (1 : Int32)) C.1 C.2.1 dX12_tellRow_81 (by decide) ?_
              refine lv_goto (tgt := 86) C.1 C.2.1 dX12_tellRow_82 (by decide) ?_
              cases hD
              exact ri_M C hr hP hS dX12_tellRow_86
          · have hD := b_f c9 hD
            refine lv_tableOut (tgt := 87) C.1 C.2.1 dX12_tellRow_1 (by have q1 := lv_neT c1 (a := 0) (by decide); have q4 := lv_neT c4 (a := 1) (by decide); have q7 := lv_neT c7 (a := 2) (by decide); have q8 := lv_neT c8 (a := 3) (by decide); have q9 := lv_neT c9 (a := 4) (by decide); omega) (by decide) ?_
            refine lv_bipush (v := (-102 : Int32)) C.1 C.2.1 dX12_tellRow_87 (by decide) ?_
            cases hD
            exact ri_M C hr hP hS dX12_tellRow_89
abbrev rm_X12_row : Room := { frames := 5, cells := 0, slots := 0, locals := 120 }
set_option maxHeartbeats 4000000 in
set_option maxRecDepth 100000 in
theorem c_X12_row (l : Launch) (g : Gx) (sz : Nat) (N : Nat) (σ : St) (x1 : Int32) (x2 : Int32) {h : Int64} {r : Int32} (hD : D_X12_row N σ x1 x2 = some r) : Met l yX12_row (Cond.code yX12_row cX12_row 3 (some .int) :: tb) rm_X12_row (PcM g h [.ref (g.2.2 31), .int x1, .int x2] σ sz) (QiM g h (AM g sz) r σ) 0 0 (AM g sz) := by
  refine Met.ofW (cc := cX12_row) (maxL := 3) (ret := some .int) (by decide) rfl ?_
  intro p e s m args below meth c s₁ B hml hv
  have hv0 := hv
  obtain ⟨rfl, hsz, hP, -⟩ := hv
  subst hsz
  have C : CM g (AM g s.heap.size) p s m _ meth c cX12_row 3 RX12 := CM.of B hml (fun w h => List.mem_cons_of_mem _ h) rfl hv0
  have hr := B.returns
  have hS : va_S (AM g s.heap.size) s.heap s.heap [] := va_S.rf
  have hl := lv_entry ([.ref (g.2.2 31), .int x1, .int x2]) (n := 3) (Nat.le_of_ble_eq_true rfl)
  rw [lg_entry_eq]
  generalize (lg_sl ([.ref (g.2.2 31), .int x1, .int x2]) ++ List.replicate (3 - (lg_sl ([.ref (g.2.2 31), .int x1, .int x2])).length) Slot.unset).toArray = ls at hl ⊢
  have hl : lv_has ls 3 [(0, .ref (g.2.2 31)), (1, .int x1), (2, .int x2)] := hl
  obtain ⟨H, hH⟩ : ∃ H, H = s.heap := ⟨_, rfl⟩
  have hP : va_P g.1 vwCl (wM g h σ) H := by rw [hH]; exact hP
  have hS : va_S (AM g s.heap.size) s.heap H [] := by rw [hH]; exact hS
  refine wH hH ?_
  obtain ⟨locs, hlo⟩ : ∃ locs : List Loc, locs = [] := ⟨_, rfl⟩
  rw [← hlo] at hS
  refine wL hlo ?_
  unfold D_X12_row at hD
  refine lv_aload_n C.1 C.2.1 dX12_row_0 rfl (lv_at hl 0 rfl) ?_
  refine lv_iload_n C.1 C.2.1 dX12_row_1 rfl (lv_at hl 1 rfl) ?_
  obtain ⟨r1, hd1, hD⟩ := bp_some hD
  refine kVi_M (As := [.int x1]) (rest := []) (ci := 12) (q0 := 0) C (c_X12_isRow l g H.size σ x1 hd1) kw_X12_113 ⟨rfl, rfl⟩ ⟨Nat.le_of_ble_eq_true rfl, Nat.le_of_ble_eq_true rfl⟩ kv_X12_isRow rfl rfl rfl hl.1 (Nat.le_of_ble_eq_true rfl) ⟨Nat.zero_le _, Nat.zero_le _⟩ dX12_row_2 hP hS rfl (fun H locs hP hS => ?_)
  refine lv_if_eq (tgt := 17) C.1 C.2.1 dX12_row_5 (by decide) (fun c2 => ?_) (fun c2 => ?_)
  · have hD := b_t c2 hD
    refine lv_bipush (v := (-101 : Int32)) C.1 C.2.1 dX12_row_17 (by decide) ?_
    cases hD
    exact ri_M C hr hP hS dX12_row_19
  · have hD := b_f c2 hD
    refine lv_aload_n C.1 C.2.1 dX12_row_8 rfl (lv_at hl 0 rfl) ?_
    refine lv_iload_n C.1 C.2.1 dX12_row_9 rfl (lv_at hl 1 rfl) ?_
    refine lv_iload_n C.1 C.2.1 dX12_row_10 rfl (lv_at hl 2 rfl) ?_
    obtain ⟨r3, hd3, hD⟩ := bp_some hD
    refine kVi_M (As := [.int x1, .int x2]) (rest := []) (ci := 12) (q0 := 0) C (c_X12_tellRow l g H.size N σ x1 x2 hd3) kw_X12_156 ⟨rfl, rfl⟩ ⟨Nat.le_of_ble_eq_true rfl, Nat.le_of_ble_eq_true rfl⟩ kv_X12_tellRow rfl rfl rfl hl.1 (Nat.le_of_ble_eq_true rfl) ⟨Nat.zero_le _, Nat.zero_le _⟩ dX12_row_11 hP hS rfl (fun H locs hP hS => ?_)
    refine lv_goto (tgt := 19) C.1 C.2.1 dX12_row_14 (by decide) ?_
    cases hD
    exact ri_M C hr hP hS dX12_row_19
abbrev rm_X12_seen : Room := { frames := 1, cells := 0, slots := 0, locals := 25 }
set_option maxHeartbeats 4000000 in
set_option maxRecDepth 100000 in
theorem c_X12_seen (l : Launch) (g : Gx) (sz : Nat) (σ : St) (x1 : Int32) (x2 : Int32) {h : Int64} {r : Int32} (hD : D_X12_seen σ x1 x2 = some r) : Met l yX12_seen (Cond.code yX12_seen cX12_seen 3 (some .int) :: tb) rm_X12_seen (PcM g h [.ref (g.2.2 31), .int x1, .int x2] σ sz) (QiM g h (AM g sz) r σ) 0 0 (AM g sz) := by
  refine Met.ofW (cc := cX12_seen) (maxL := 3) (ret := some .int) (by decide) rfl ?_
  intro p e s m args below meth c s₁ B hml hv
  have hv0 := hv
  obtain ⟨rfl, hsz, hP, -⟩ := hv
  subst hsz
  have C : CM g (AM g s.heap.size) p s m _ meth c cX12_seen 3 RX12 := CM.of B hml (fun w h => List.mem_cons_of_mem _ h) rfl hv0
  have hr := B.returns
  have hS : va_S (AM g s.heap.size) s.heap s.heap [] := va_S.rf
  have hl := lv_entry ([.ref (g.2.2 31), .int x1, .int x2]) (n := 3) (Nat.le_of_ble_eq_true rfl)
  rw [lg_entry_eq]
  generalize (lg_sl ([.ref (g.2.2 31), .int x1, .int x2]) ++ List.replicate (3 - (lg_sl ([.ref (g.2.2 31), .int x1, .int x2])).length) Slot.unset).toArray = ls at hl ⊢
  have hl : lv_has ls 3 [(0, .ref (g.2.2 31)), (1, .int x1), (2, .int x2)] := hl
  obtain ⟨H, hH⟩ : ∃ H, H = s.heap := ⟨_, rfl⟩
  have hP : va_P g.1 vwCl (wM g h σ) H := by rw [hH]; exact hP
  have hS : va_S (AM g s.heap.size) s.heap H [] := by rw [hH]; exact hS
  refine wH hH ?_
  obtain ⟨locs, hlo⟩ : ∃ locs : List Loc, locs = [] := ⟨_, rfl⟩
  rw [← hlo] at hS
  refine wL hlo ?_
  unfold D_X12_seen at hD
  refine lv_iload_n C.1 C.2.1 dX12_seen_0 rfl (lv_at hl 1 rfl) ?_
  refine lv_i2l C.1 C.2.1 dX12_seen_1 rfl ?_
  refine lv_lconst (v := (0 : Int64)) C.1 C.2.1 dX12_seen_2 (by decide) ?_
  refine lv_aload_n C.1 C.2.1 dX12_seen_3 rfl (lv_at hl 0 rfl) ?_
  refine gf_X12_93_31 C hP dX12_seen_4 ?_
  refine lv_iconst (v := (1 : Int32)) C.1 C.2.1 dX12_seen_7 (by decide) ?_
  refine lv_isub C.1 C.2.1 dX12_seen_8 ?_
  refine lv_i2l C.1 C.2.1 dX12_seen_9 rfl ?_
  obtain ⟨r1, hd1, hD⟩ := bp_some hD
  refine kSi_M (As := [.long x1.toInt64, .long (0 : Int64), .long (((σ 31 8) - (1 : Int32)).toInt64)]) (rest := []) C (c_X12_in l g H.size σ x1.toInt64 (0 : Int64) (((σ 31 8) - (1 : Int32)).toInt64) hd1) kw_X12_46 ⟨rfl, rfl⟩ ⟨Nat.le_of_ble_eq_true rfl, Nat.le_of_ble_eq_true rfl⟩ ks_X12_in rfl hl.1 (Nat.le_of_ble_eq_true rfl) ⟨Nat.zero_le _, Nat.zero_le _⟩ dX12_seen_10 hP hS rfl (fun H locs hP hS => ?_)
  refine lv_if_ne (tgt := 19) C.1 C.2.1 dX12_seen_13 (by decide) (fun c2 => ?_) (fun c2 => ?_)
  · have hD := b_f c2 hD
    refine lv_iload_n C.1 C.2.1 dX12_seen_19 rfl (lv_at hl 2 rfl) ?_
    refine lv_i2l C.1 C.2.1 dX12_seen_20 rfl ?_
    refine lv_lconst (v := (0 : Int64)) C.1 C.2.1 dX12_seen_21 (by decide) ?_
    refine lv_ldc2 (v := (2 : Int64)) (own := RX12) C.1 C.2.1 C.2.2.2.1 (C.2.2.2.2.1 (.constantLong RX12 159 (2 : Int64)) (tb_in 1007 (by decide +kernel) (by decide +kernel))) dX12_seen_22 ?_
    obtain ⟨r3, hd3, hD⟩ := bp_some hD
    refine kSi_M (As := [.long x2.toInt64, .long (0 : Int64), .long (2 : Int64)]) (rest := []) C (c_X12_in l g H.size σ x2.toInt64 (0 : Int64) (2 : Int64) hd3) kw_X12_46 ⟨rfl, rfl⟩ ⟨Nat.le_of_ble_eq_true rfl, Nat.le_of_ble_eq_true rfl⟩ ks_X12_in rfl hl.1 (Nat.le_of_ble_eq_true rfl) ⟨Nat.zero_le _, Nat.zero_le _⟩ dX12_seen_25 hP hS rfl (fun H locs hP hS => ?_)
    refine lv_if_eq (tgt := 44) C.1 C.2.1 dX12_seen_28 (by decide) (fun c4 => ?_) (fun c4 => ?_)
    · have hD := b_t c4 hD
      refine lv_bipush (v := (-102 : Int32)) C.1 C.2.1 dX12_seen_44 (by decide) ?_
      cases hD
      exact ri_M C hr hP hS dX12_seen_46
    · have hD := b_f c4 hD
      refine lv_aload_n C.1 C.2.1 dX12_seen_31 rfl (lv_at hl 0 rfl) ?_
      refine gf_X12_16_31 C hP dX12_seen_32 ?_
      refine lv_iconst (v := (3 : Int32)) C.1 C.2.1 dX12_seen_35 (by decide) ?_
      refine lv_iload_n C.1 C.2.1 dX12_seen_36 rfl (lv_at hl 1 rfl) ?_
      refine lv_imul C.1 C.2.1 dX12_seen_37 ?_
      refine lv_iload_n C.1 C.2.1 dX12_seen_38 rfl (lv_at hl 2 rfl) ?_
      refine lv_iadd C.1 C.2.1 dX12_seen_39 ?_
      obtain ⟨hi5, hD⟩ := gi_some hD
      refine iaM C hP 3 rfl hi5 dX12_seen_40 ?_
      refine lv_goto (tgt := 46) C.1 C.2.1 dX12_seen_41 (by decide) ?_
      cases hD
      exact ri_M C hr hP hS dX12_seen_46
  · have hD := b_t c2 hD
    refine lv_bipush (v := (-101 : Int32)) C.1 C.2.1 dX12_seen_16 (by decide) ?_
    cases hD
    exact ri_M C hr hP hS dX12_seen_18
abbrev rm_X12_show : Room := { frames := 3, cells := 0, slots := 0, locals := 75 }
set_option maxHeartbeats 4000000 in
set_option maxRecDepth 100000 in
theorem c_X12_show (l : Launch) (g : Gx) (sz : Nat) (N : Nat) (σ : St) (x1 : Int32) (x2 : Int32) {h : Int64} {r : Int32} {u : St} (hD : D_X12_show N σ x1 x2 = some (r, u)) : Met l yX12_show (Cond.code yX12_show cX12_show 4 (some .int) :: tb) rm_X12_show (PcM g h [.ref (g.2.2 31), .int x1, .int x2] σ sz) (QiM g h (AM g sz) r u) 0 0 (AM g sz) := by
  refine Met.ofW (cc := cX12_show) (maxL := 4) (ret := some .int) (by decide) rfl ?_
  intro p e s m args below meth c s₁ B hml hv
  have hv0 := hv
  obtain ⟨rfl, hsz, hP, -⟩ := hv
  subst hsz
  have C : CM g (AM g s.heap.size) p s m _ meth c cX12_show 4 RX12 := CM.of B hml (fun w h => List.mem_cons_of_mem _ h) rfl hv0
  have hr := B.returns
  have hS : va_S (AM g s.heap.size) s.heap s.heap [] := va_S.rf
  have hl := lv_entry ([.ref (g.2.2 31), .int x1, .int x2]) (n := 4) (Nat.le_of_ble_eq_true rfl)
  rw [lg_entry_eq]
  generalize (lg_sl ([.ref (g.2.2 31), .int x1, .int x2]) ++ List.replicate (4 - (lg_sl ([.ref (g.2.2 31), .int x1, .int x2])).length) Slot.unset).toArray = ls at hl ⊢
  have hl : lv_has ls 4 [(0, .ref (g.2.2 31)), (1, .int x1), (2, .int x2)] := hl
  obtain ⟨H, hH⟩ : ∃ H, H = s.heap := ⟨_, rfl⟩
  have hP : va_P g.1 vwCl (wM g h σ) H := by rw [hH]; exact hP
  have hS : va_S (AM g s.heap.size) s.heap H [] := by rw [hH]; exact hS
  refine wH hH ?_
  obtain ⟨locs, hlo⟩ : ∃ locs : List Loc, locs = [] := ⟨_, rfl⟩
  rw [← hlo] at hS
  refine wL hlo ?_
  unfold D_X12_show at hD
  refine lv_aload_n C.1 C.2.1 dX12_show_0 rfl (lv_at hl 0 rfl) ?_
  refine lv_iload_n C.1 C.2.1 dX12_show_1 rfl (lv_at hl 1 rfl) ?_
  obtain ⟨r1, hd1, hD⟩ := bp_some hD
  refine kVi_M (As := [.int x1]) (rest := []) (ci := 12) (q0 := 0) C (c_X12_isRow l g H.size σ x1 hd1) kw_X12_113 ⟨rfl, rfl⟩ ⟨Nat.le_of_ble_eq_true rfl, Nat.le_of_ble_eq_true rfl⟩ kv_X12_isRow rfl rfl rfl hl.1 (Nat.le_of_ble_eq_true rfl) ⟨Nat.zero_le _, Nat.zero_le _⟩ dX12_show_2 hP hS rfl (fun H locs hP hS => ?_)
  refine lv_if_eq (tgt := 16) C.1 C.2.1 dX12_show_5 (by decide) (fun c2 => ?_) (fun c2 => ?_)
  · have hD := b_t c2 hD
    refine lv_bipush (v := (-101 : Int32)) C.1 C.2.1 dX12_show_16 (by decide) ?_
    cases hD
    exact ri_M C hr hP hS dX12_show_18
  · have hD := b_f c2 hD
    refine lv_aload_n C.1 C.2.1 dX12_show_8 rfl (lv_at hl 0 rfl) ?_
    refine lv_iload_n C.1 C.2.1 dX12_show_9 rfl (lv_at hl 2 rfl) ?_
    obtain ⟨r3, hd3, hD⟩ := bp_some hD
    refine kVi_M (As := [.int x2]) (rest := []) (ci := 12) (q0 := 0) C (c_X12_isJudge l g H.size σ x2 hd3) kw_X12_110 ⟨rfl, rfl⟩ ⟨Nat.le_of_ble_eq_true rfl, Nat.le_of_ble_eq_true rfl⟩ kv_X12_isJudge rfl rfl rfl hl.1 (Nat.le_of_ble_eq_true rfl) ⟨Nat.zero_le _, Nat.zero_le _⟩ dX12_show_10 hP hS rfl (fun H locs hP hS => ?_)
    refine lv_if_ne (tgt := 19) C.1 C.2.1 dX12_show_13 (by decide) (fun c4 => ?_) (fun c4 => ?_)
    · have hD := b_f c4 hD
      refine lv_aload_n C.1 C.2.1 dX12_show_19 rfl (lv_at hl 0 rfl) ?_
      refine gf_X12_93_31 C hP dX12_show_20 ?_
      refine lv_bipush (v := (12 : Int32)) C.1 C.2.1 dX12_show_23 (by decide) ?_
      refine lv_icmp_ne (tgt := 31) C.1 C.2.1 dX12_show_25 (by decide) (fun c5 => ?_) (fun c5 => ?_)
      · have hD := b_f c5 hD
        refine lv_aload_n C.1 C.2.1 dX12_show_31 rfl (lv_at hl 0 rfl) ?_
        refine lv_aload_n C.1 C.2.1 dX12_show_32 rfl (lv_at hl 0 rfl) ?_
        refine gf_X12_13_31 C hP dX12_show_33 ?_
        refine lv_iload_n C.1 C.2.1 dX12_show_36 rfl (lv_at hl 2 rfl) ?_
        obtain ⟨hi6, hD⟩ := gi_some hD
        refine iaM C hP 2 rfl hi6 dX12_show_37 ?_
        refine lv_iload_n C.1 C.2.1 dX12_show_38 rfl (lv_at hl 1 rfl) ?_
        refine lv_aload_n C.1 C.2.1 dX12_show_39 rfl (lv_at hl 0 rfl) ?_
        refine gf_X12_41_31 C hP dX12_show_40 ?_
        obtain ⟨r7, hd7, hD⟩ := bp_some hD
        refine kVi_M (As := [.int (σ 33 x2.toNatClampNeg), .int x1, .int (σ 31 7)]) (rest := []) (ci := 12) (q0 := 0) C (c_X12_tellsBy l g H.size N σ (σ 33 x2.toNatClampNeg) x1 (σ 31 7) hd7) kw_X12_116 ⟨rfl, rfl⟩ ⟨Nat.le_of_ble_eq_true rfl, Nat.le_of_ble_eq_true rfl⟩ kv_X12_tellsBy rfl rfl rfl hl.1 (Nat.le_of_ble_eq_true rfl) ⟨Nat.zero_le _, Nat.zero_le _⟩ dX12_show_43 hP hS rfl (fun H locs hP hS => ?_)
        refine lv_istore_n (lv' := [(3, .int r7), (0, .ref (g.2.2 31)), (1, .int x1), (2, .int x2)]) C.1 C.2.1 dX12_show_46 rfl hl (by decide) rfl (fun ls hl => ?_)
        refine lv_aload_n C.1 C.2.1 dX12_show_47 rfl (lv_at hl 1 rfl) ?_
        refine lv_iload_n C.1 C.2.1 dX12_show_48 rfl (lv_at hl 2 rfl) ?_
        refine lv_iload_n C.1 C.2.1 dX12_show_49 rfl (lv_at hl 3 rfl) ?_
        refine lv_iload_n C.1 C.2.1 dX12_show_50 rfl (lv_at hl 0 rfl) ?_
        obtain ⟨s8, hd8, hD⟩ := bp_some hD
        refine kVv_M (As := [.int x1, .int x2, .int r7]) (rest := []) (ci := 12) (q0 := 0) C (c_X12_keep l g H.size σ x1 x2 r7 hd8) kw_X12_161 ⟨rfl, rfl⟩ ⟨Nat.le_of_ble_eq_true rfl, Nat.le_of_ble_eq_true rfl⟩ kv_X12_keep rfl rfl rfl hl.1 (Nat.le_of_ble_eq_true rfl) ⟨Nat.zero_le _, Nat.zero_le _⟩ dX12_show_51 hP hS rfl (fun H locs hP hS => ?_)
        refine lv_iload_n C.1 C.2.1 dX12_show_54 rfl (lv_at hl 0 rfl) ?_
        cases hD
        exact ri_M C hr hP hS dX12_show_55
      · have hD := b_t c5 hD
        refine lv_bipush (v := (-104 : Int32)) C.1 C.2.1 dX12_show_28 (by decide) ?_
        cases hD
        exact ri_M C hr hP hS dX12_show_30
    · have hD := b_t c4 hD
      refine lv_bipush (v := (-101 : Int32)) C.1 C.2.1 dX12_show_16 (by decide) ?_
      cases hD
      exact ri_M C hr hP hS dX12_show_18
abbrev rm_X12_soManieth : Room := { frames := 0, cells := 0, slots := 0, locals := 0 }
set_option maxHeartbeats 4000000 in
set_option maxRecDepth 100000 in
theorem w_J_X12_soManieth_17 (C : CM g A p s m args meth c cX12_soManieth 4 RX12) (hr : meth.sig.returnType = some .int) (N : Nat) (σ : St) {h : Int64} {r : Int32} (kc4 : Int32 → Int32 → Option Int32) (x2 : Int32) (x3 : Int32) (hk4 : ∀ (x2 : Int32) (x3 : Int32) (H : Heap) (locs : List Loc) (ls : Array Slot), lv_has ls 4 [(0, .ref (g.2.2 31)), (2, .int x2), (3, .int x3)] → va_P g.1 vwCl (wM g h σ) H → va_S A s.heap H locs → kc4 x2 x3 = some r → W p l e rm_X12_soManieth s m args below meth c H locs 0 0 (MQ below (QiM g h A r σ) args s 0 0 A) (F0 m 4 ls [])) : ∀  (H : Heap) (locs : List Loc) (ls : Array Slot), lv_has ls 4 [(0, .ref (g.2.2 31)), (2, .int x2), (3, .int x3)] → va_P g.1 vwCl (wM g h σ) H → va_S A s.heap H locs → J_X12_soManieth_17 N σ kc4 x2 x3 = some r → W p l e rm_X12_soManieth s m args below meth c H locs 0 0 (MQ below (QiM g h A r σ) args s 0 0 A) (F0 m 17 ls []) := by
  intro  H locs ls hl hP hS hD
  unfold J_X12_soManieth_17 at hD
  refine lv_iload_n C.1 C.2.1 dX12_soManieth_17 rfl (lv_at hl 1 rfl) ?_
  refine lv_aload_n C.1 C.2.1 dX12_soManieth_18 rfl (lv_at hl 0 rfl) ?_
  refine gf_X12_19_31 C hP dX12_soManieth_19 ?_
  refine lv_iload_n C.1 C.2.1 dX12_soManieth_22 rfl (lv_at hl 2 rfl) ?_
  obtain ⟨hi3, hD⟩ := gi_some hD
  refine iaM C hP 4 rfl hi3 dX12_soManieth_23 ?_
  refine lv_isub C.1 C.2.1 dX12_soManieth_24 ?_
  refine lv_istore_n (lv' := [(2, .int (x2 - (σ 35 x3.toNatClampNeg))), (0, .ref (g.2.2 31)), (3, .int x3)]) C.1 C.2.1 dX12_soManieth_25 rfl hl (by decide) rfl (fun ls hl => ?_)
  refine lv_iinc (v := x3 + (1 : Int32)) (lv' := [(3, .int (x3 + (1 : Int32))), (2, .int (x2 - (σ 35 x3.toNatClampNeg))), (0, .ref (g.2.2 31))]) C.1 C.2.1 dX12_soManieth_26 hl (k := 2) rfl rfl (by decide) rfl (fun ls hl => ?_)
  refine lv_goto (tgt := 4) C.1 C.2.1 dX12_soManieth_29 (by decide) ?_
  exact hk4 (x2 - (σ 35 x3.toNatClampNeg)) (x3 + (1 : Int32)) H locs ls (lv_sub hl [2, 1, 0] rfl) hP hS hD
set_option maxHeartbeats 4000000 in
set_option maxRecDepth 100000 in
theorem w_L_X12_soManieth_4 (C : CM g A p s m args meth c cX12_soManieth 4 RX12) (hr : meth.sig.returnType = some .int) (N : Nat) (σ : St) {h : Int64} {r : Int32} : ∀ (n : Nat) (x2 : Int32) (x3 : Int32) (H : Heap) (locs : List Loc) (ls : Array Slot), lv_has ls 4 [(0, .ref (g.2.2 31)), (2, .int x2), (3, .int x3)] → va_P g.1 vwCl (wM g h σ) H → va_S A s.heap H locs → L_X12_soManieth_4 N σ n x2 x3 = some r → W p l e rm_X12_soManieth s m args below meth c H locs 0 0 (MQ below (QiM g h A r σ) args s 0 0 A) (F0 m 4 ls []) := by
  intro n
  induction n with
  | zero =>
    intro x2 x3 H locs ls hl hP hS hD
    rw [L_X12_soManieth_4] at hD
    cases hD
  | succ n ih =>
    intro x2 x3 H locs ls hl hP hS hD
    rw [L_X12_soManieth_4] at hD
    refine lv_aload_n C.1 C.2.1 dX12_soManieth_4 rfl (lv_at hl 0 rfl) ?_
    refine gf_X12_19_31 C hP dX12_soManieth_5 ?_
    refine lv_iload_n C.1 C.2.1 dX12_soManieth_8 rfl (lv_at hl 2 rfl) ?_
    obtain ⟨hi1, hD⟩ := gi_some hD
    refine iaM C hP 4 rfl hi1 dX12_soManieth_9 ?_
    refine lv_if_eq (tgt := 17) C.1 C.2.1 dX12_soManieth_10 (by decide) (fun c2 => ?_) (fun c2 => ?_)
    · have hD := b_t c2 hD
      exact w_J_X12_soManieth_17 C hr N σ (L_X12_soManieth_4 N σ n) x2 x3 ih H locs ls (lv_sub hl [0, 1, 2] rfl) hP hS hD
    · have hD := b_f c2 hD
      refine lv_iload_n C.1 C.2.1 dX12_soManieth_13 rfl (lv_at hl 1 rfl) ?_
      refine lv_if_le (tgt := 32) C.1 C.2.1 dX12_soManieth_14 (by decide) (fun c4 => ?_) (fun c4 => ?_)
      · have hD := b_t c4 hD
        refine lv_iload_n C.1 C.2.1 dX12_soManieth_32 rfl (lv_at hl 2 rfl) ?_
        cases hD
        exact ri_M C hr hP hS dX12_soManieth_33
      · have hD := b_f c4 hD
        exact w_J_X12_soManieth_17 C hr N σ (L_X12_soManieth_4 N σ n) x2 x3 ih H locs ls (lv_sub hl [0, 1, 2] rfl) hP hS hD
set_option maxHeartbeats 4000000 in
set_option maxRecDepth 100000 in
theorem c_X12_soManieth (l : Launch) (g : Gx) (sz : Nat) (N : Nat) (σ : St) (x1 : Int32) {h : Int64} {r : Int32} (hD : D_X12_soManieth N σ x1 = some r) : Met l yX12_soManieth (Cond.code yX12_soManieth cX12_soManieth 4 (some .int) :: tb) rm_X12_soManieth (PcM g h [.ref (g.2.2 31), .int x1] σ sz) (QiM g h (AM g sz) r σ) 0 0 (AM g sz) := by
  refine Met.ofW (cc := cX12_soManieth) (maxL := 4) (ret := some .int) (by decide) rfl ?_
  intro p e s m args below meth c s₁ B hml hv
  have hv0 := hv
  obtain ⟨rfl, hsz, hP, -⟩ := hv
  subst hsz
  have C : CM g (AM g s.heap.size) p s m _ meth c cX12_soManieth 4 RX12 := CM.of B hml (fun w h => List.mem_cons_of_mem _ h) rfl hv0
  have hr := B.returns
  have hS : va_S (AM g s.heap.size) s.heap s.heap [] := va_S.rf
  have hl := lv_entry ([.ref (g.2.2 31), .int x1]) (n := 4) (Nat.le_of_ble_eq_true rfl)
  rw [lg_entry_eq]
  generalize (lg_sl ([.ref (g.2.2 31), .int x1]) ++ List.replicate (4 - (lg_sl ([.ref (g.2.2 31), .int x1])).length) Slot.unset).toArray = ls at hl ⊢
  have hl : lv_has ls 4 [(0, .ref (g.2.2 31)), (1, .int x1)] := hl
  obtain ⟨H, hH⟩ : ∃ H, H = s.heap := ⟨_, rfl⟩
  have hP : va_P g.1 vwCl (wM g h σ) H := by rw [hH]; exact hP
  have hS : va_S (AM g s.heap.size) s.heap H [] := by rw [hH]; exact hS
  refine wH hH ?_
  obtain ⟨locs, hlo⟩ : ∃ locs : List Loc, locs = [] := ⟨_, rfl⟩
  rw [← hlo] at hS
  refine wL hlo ?_
  unfold D_X12_soManieth at hD
  refine lv_iload_n C.1 C.2.1 dX12_soManieth_0 rfl (lv_at hl 1 rfl) ?_
  refine lv_istore_n (lv' := [(2, .int x1), (0, .ref (g.2.2 31)), (1, .int x1)]) C.1 C.2.1 dX12_soManieth_1 rfl hl (by decide) rfl (fun ls hl => ?_)
  refine lv_iconst (v := (0 : Int32)) C.1 C.2.1 dX12_soManieth_2 (by decide) ?_
  refine lv_istore_n (lv' := [(3, .int (0 : Int32)), (2, .int x1), (0, .ref (g.2.2 31)), (1, .int x1)]) C.1 C.2.1 dX12_soManieth_3 rfl hl (by decide) rfl (fun ls hl => ?_)
  exact w_L_X12_soManieth_4 C hr N σ N x1 (0 : Int32) H locs ls (lv_sub hl [2, 1, 0] rfl) hP hS hD
abbrev rm_X12_strike : Room := { frames := 0, cells := 0, slots := 0, locals := 0 }
set_option maxHeartbeats 4000000 in
set_option maxRecDepth 100000 in
theorem c_X12_strike (l : Launch) (g : Gx) (sz : Nat) (σ : St) {h : Int64} {r : Int32} {u : St} (hD : D_X12_strike σ = some (r, u)) : Met l yX12_strike (Cond.code yX12_strike cX12_strike 1 (some .int) :: tb) rm_X12_strike (PcM g h [.ref (g.2.2 31)] σ sz) (QiM g h (AM g sz) r u) 0 0 (AM g sz) := by
  refine Met.ofW (cc := cX12_strike) (maxL := 1) (ret := some .int) (by decide) rfl ?_
  intro p e s m args below meth c s₁ B hml hv
  have hv0 := hv
  obtain ⟨rfl, hsz, hP, -⟩ := hv
  subst hsz
  have C : CM g (AM g s.heap.size) p s m _ meth c cX12_strike 1 RX12 := CM.of B hml (fun w h => List.mem_cons_of_mem _ h) rfl hv0
  have hr := B.returns
  have hS : va_S (AM g s.heap.size) s.heap s.heap [] := va_S.rf
  have hl := lv_entry ([.ref (g.2.2 31)]) (n := 1) (Nat.le_of_ble_eq_true rfl)
  rw [lg_entry_eq]
  generalize (lg_sl ([.ref (g.2.2 31)]) ++ List.replicate (1 - (lg_sl ([.ref (g.2.2 31)])).length) Slot.unset).toArray = ls at hl ⊢
  have hl : lv_has ls 1 [(0, .ref (g.2.2 31))] := hl
  obtain ⟨H, hH⟩ : ∃ H, H = s.heap := ⟨_, rfl⟩
  have hP : va_P g.1 vwCl (wM g h σ) H := by rw [hH]; exact hP
  have hS : va_S (AM g s.heap.size) s.heap H [] := by rw [hH]; exact hS
  refine wH hH ?_
  obtain ⟨locs, hlo⟩ : ∃ locs : List Loc, locs = [] := ⟨_, rfl⟩
  rw [← hlo] at hS
  refine wL hlo ?_
  unfold D_X12_strike at hD
  refine lv_aload_n C.1 C.2.1 dX12_strike_0 rfl (lv_at hl 0 rfl) ?_
  refine gf_X12_93_31 C hP dX12_strike_1 ?_
  refine lv_if_ne (tgt := 10) C.1 C.2.1 dX12_strike_4 (by decide) (fun c1 => ?_) (fun c1 => ?_)
  · have hD := b_f c1 hD
    refine lv_aload_n C.1 C.2.1 dX12_strike_10 rfl (lv_at hl 0 rfl) ?_
    refine lv_dup C.1 C.2.1 dX12_strike_11 rfl ?_
    refine gf_X12_93_31 C hP dX12_strike_12 ?_
    refine lv_iconst (v := (1 : Int32)) C.1 C.2.1 dX12_strike_15 (by decide) ?_
    refine lv_isub C.1 C.2.1 dX12_strike_16 ?_
    refine pf_X12_93_31 C hP hS dX12_strike_17 (fun H locs hP hS => ?_)
    refine lv_aload_n C.1 C.2.1 dX12_strike_20 rfl (lv_at hl 0 rfl) ?_
    refine gf_X12_93_31 C hP dX12_strike_21 ?_
    refine w_rd (show (pt σ 31 8 ((σ 31 8) - (1 : Int32))) 31 8 = (σ 31 8) - (1 : Int32) from rfl) ?_
    cases hD
    exact ri_M C hr hP hS dX12_strike_24
  · have hD := b_t c1 hD
    refine lv_bipush (v := (-103 : Int32)) C.1 C.2.1 dX12_strike_7 (by decide) ?_
    cases hD
    exact ri_M C hr hP hS dX12_strike_9
abbrev rm_X12_swap : Room := { frames := 2, cells := 0, slots := 0, locals := 46 }
set_option maxHeartbeats 4000000 in
set_option maxRecDepth 100000 in
theorem c_X12_swap (l : Launch) (g : Gx) (sz : Nat) (σ : St) (x1 : Int32) (x2 : Int32) {h : Int64} {r : Int32} {u : St} (hD : D_X12_swap σ x1 x2 = some (r, u)) : Met l yX12_swap (Cond.code yX12_swap cX12_swap 4 (some .int) :: tb) rm_X12_swap (PcM g h [.ref (g.2.2 31), .int x1, .int x2] σ sz) (QiM g h (AM g sz) r u) 0 0 (AM g sz) := by
  refine Met.ofW (cc := cX12_swap) (maxL := 4) (ret := some .int) (by decide) rfl ?_
  intro p e s m args below meth c s₁ B hml hv
  have hv0 := hv
  obtain ⟨rfl, hsz, hP, -⟩ := hv
  subst hsz
  have C : CM g (AM g s.heap.size) p s m _ meth c cX12_swap 4 RX12 := CM.of B hml (fun w h => List.mem_cons_of_mem _ h) rfl hv0
  have hr := B.returns
  have hS : va_S (AM g s.heap.size) s.heap s.heap [] := va_S.rf
  have hl := lv_entry ([.ref (g.2.2 31), .int x1, .int x2]) (n := 4) (Nat.le_of_ble_eq_true rfl)
  rw [lg_entry_eq]
  generalize (lg_sl ([.ref (g.2.2 31), .int x1, .int x2]) ++ List.replicate (4 - (lg_sl ([.ref (g.2.2 31), .int x1, .int x2])).length) Slot.unset).toArray = ls at hl ⊢
  have hl : lv_has ls 4 [(0, .ref (g.2.2 31)), (1, .int x1), (2, .int x2)] := hl
  obtain ⟨H, hH⟩ : ∃ H, H = s.heap := ⟨_, rfl⟩
  have hP : va_P g.1 vwCl (wM g h σ) H := by rw [hH]; exact hP
  have hS : va_S (AM g s.heap.size) s.heap H [] := by rw [hH]; exact hS
  refine wH hH ?_
  obtain ⟨locs, hlo⟩ : ∃ locs : List Loc, locs = [] := ⟨_, rfl⟩
  rw [← hlo] at hS
  refine wL hlo ?_
  unfold D_X12_swap at hD
  refine lv_aload_n C.1 C.2.1 dX12_swap_0 rfl (lv_at hl 0 rfl) ?_
  refine lv_iload_n C.1 C.2.1 dX12_swap_1 rfl (lv_at hl 1 rfl) ?_
  obtain ⟨r1, hd1, hD⟩ := bp_some hD
  refine kVi_M (As := [.int x1]) (rest := []) (ci := 12) (q0 := 0) C (c_X12_isJudge l g H.size σ x1 hd1) kw_X12_110 ⟨rfl, rfl⟩ ⟨Nat.le_of_ble_eq_true rfl, Nat.le_of_ble_eq_true rfl⟩ kv_X12_isJudge rfl rfl rfl hl.1 (Nat.le_of_ble_eq_true rfl) ⟨Nat.zero_le _, Nat.zero_le _⟩ dX12_swap_2 hP hS rfl (fun H locs hP hS => ?_)
  refine lv_if_ne (tgt := 11) C.1 C.2.1 dX12_swap_5 (by decide) (fun c2 => ?_) (fun c2 => ?_)
  · have hD := b_f c2 hD
    refine lv_iload_n C.1 C.2.1 dX12_swap_11 rfl (lv_at hl 2 rfl) ?_
    refine lv_i2l C.1 C.2.1 dX12_swap_12 rfl ?_
    refine lv_lconst (v := (0 : Int64)) C.1 C.2.1 dX12_swap_13 (by decide) ?_
    refine lv_ldc2 (v := (4 : Int64)) (own := RX12) C.1 C.2.1 C.2.2.2.1 (C.2.2.2.2.1 (.constantLong RX12 154 (4 : Int64)) (tb_in 994 (by decide +kernel) (by decide +kernel))) dX12_swap_14 ?_
    obtain ⟨r3, hd3, hD⟩ := bp_some hD
    refine kSi_M (As := [.long x2.toInt64, .long (0 : Int64), .long (4 : Int64)]) (rest := []) C (c_X12_in l g H.size σ x2.toInt64 (0 : Int64) (4 : Int64) hd3) kw_X12_46 ⟨rfl, rfl⟩ ⟨Nat.le_of_ble_eq_true rfl, Nat.le_of_ble_eq_true rfl⟩ ks_X12_in rfl hl.1 (Nat.le_of_ble_eq_true rfl) ⟨Nat.zero_le _, Nat.zero_le _⟩ dX12_swap_17 hP hS rfl (fun H locs hP hS => ?_)
    refine lv_if_ne (tgt := 26) C.1 C.2.1 dX12_swap_20 (by decide) (fun c4 => ?_) (fun c4 => ?_)
    · have hD := b_f c4 hD
      refine lv_aload_n C.1 C.2.1 dX12_swap_26 rfl (lv_at hl 0 rfl) ?_
      refine gf_X12_13_31 C hP dX12_swap_27 ?_
      refine lv_iload_n C.1 C.2.1 dX12_swap_30 rfl (lv_at hl 1 rfl) ?_
      obtain ⟨hi5, hD⟩ := gi_some hD
      refine iaM C hP 2 rfl hi5 dX12_swap_31 ?_
      refine lv_istore_n (lv' := [(3, .int (σ 33 x1.toNatClampNeg)), (0, .ref (g.2.2 31)), (1, .int x1), (2, .int x2)]) C.1 C.2.1 dX12_swap_32 rfl hl (by decide) rfl (fun ls hl => ?_)
      refine lv_aload_n C.1 C.2.1 dX12_swap_33 rfl (lv_at hl 1 rfl) ?_
      refine gf_X12_13_31 C hP dX12_swap_34 ?_
      refine lv_iload_n C.1 C.2.1 dX12_swap_37 rfl (lv_at hl 2 rfl) ?_
      refine lv_iload_n C.1 C.2.1 dX12_swap_38 rfl (lv_at hl 3 rfl) ?_
      obtain ⟨hi6, hD⟩ := gi_some hD
      refine isM C hP hS 2 rfl hi6 dX12_swap_39 st_33 (fun H locs hP hS => ?_)
      refine lv_iload_n C.1 C.2.1 dX12_swap_40 rfl (lv_at hl 0 rfl) ?_
      cases hD
      exact ri_M C hr hP hS dX12_swap_41
    · have hD := b_t c4 hD
      refine lv_bipush (v := (-102 : Int32)) C.1 C.2.1 dX12_swap_23 (by decide) ?_
      cases hD
      exact ri_M C hr hP hS dX12_swap_25
  · have hD := b_t c2 hD
    refine lv_bipush (v := (-101 : Int32)) C.1 C.2.1 dX12_swap_8 (by decide) ?_
    cases hD
    exact ri_M C hr hP hS dX12_swap_10
abbrev rm_X12_tells : Room := { frames := 3, cells := 0, slots := 0, locals := 75 }
set_option maxHeartbeats 4000000 in
set_option maxRecDepth 100000 in
theorem c_X12_tells (l : Launch) (g : Gx) (sz : Nat) (N : Nat) (σ : St) (x1 : Int32) (x2 : Int32) (x3 : Int32) {h : Int64} {r : Int32} (hD : D_X12_tells N σ x1 x2 x3 = some r) : Met l yX12_tells (Cond.code yX12_tells cX12_tells 4 (some .int) :: tb) rm_X12_tells (PcM g h [.ref (g.2.2 31), .int x1, .int x2, .int x3] σ sz) (QiM g h (AM g sz) r σ) 0 0 (AM g sz) := by
  refine Met.ofW (cc := cX12_tells) (maxL := 4) (ret := some .int) (by decide) rfl ?_
  intro p e s m args below meth c s₁ B hml hv
  have hv0 := hv
  obtain ⟨rfl, hsz, hP, -⟩ := hv
  subst hsz
  have C : CM g (AM g s.heap.size) p s m _ meth c cX12_tells 4 RX12 := CM.of B hml (fun w h => List.mem_cons_of_mem _ h) rfl hv0
  have hr := B.returns
  have hS : va_S (AM g s.heap.size) s.heap s.heap [] := va_S.rf
  have hl := lv_entry ([.ref (g.2.2 31), .int x1, .int x2, .int x3]) (n := 4) (Nat.le_of_ble_eq_true rfl)
  rw [lg_entry_eq]
  generalize (lg_sl ([.ref (g.2.2 31), .int x1, .int x2, .int x3]) ++ List.replicate (4 - (lg_sl ([.ref (g.2.2 31), .int x1, .int x2, .int x3])).length) Slot.unset).toArray = ls at hl ⊢
  have hl : lv_has ls 4 [(0, .ref (g.2.2 31)), (1, .int x1), (2, .int x2), (3, .int x3)] := hl
  obtain ⟨H, hH⟩ : ∃ H, H = s.heap := ⟨_, rfl⟩
  have hP : va_P g.1 vwCl (wM g h σ) H := by rw [hH]; exact hP
  have hS : va_S (AM g s.heap.size) s.heap H [] := by rw [hH]; exact hS
  refine wH hH ?_
  obtain ⟨locs, hlo⟩ : ∃ locs : List Loc, locs = [] := ⟨_, rfl⟩
  rw [← hlo] at hS
  refine wL hlo ?_
  unfold D_X12_tells at hD
  refine lv_aload_n C.1 C.2.1 dX12_tells_0 rfl (lv_at hl 0 rfl) ?_
  refine lv_iload_n C.1 C.2.1 dX12_tells_1 rfl (lv_at hl 1 rfl) ?_
  obtain ⟨r1, hd1, hD⟩ := bp_some hD
  refine kVi_M (As := [.int x1]) (rest := []) (ci := 12) (q0 := 0) C (c_X12_isJudge l g H.size σ x1 hd1) kw_X12_110 ⟨rfl, rfl⟩ ⟨Nat.le_of_ble_eq_true rfl, Nat.le_of_ble_eq_true rfl⟩ kv_X12_isJudge rfl rfl rfl hl.1 (Nat.le_of_ble_eq_true rfl) ⟨Nat.zero_le _, Nat.zero_le _⟩ dX12_tells_2 hP hS rfl (fun H locs hP hS => ?_)
  refine lv_if_eq (tgt := 39) C.1 C.2.1 dX12_tells_5 (by decide) (fun c2 => ?_) (fun c2 => ?_)
  · have hD := b_t c2 hD
    refine lv_bipush (v := (-101 : Int32)) C.1 C.2.1 dX12_tells_39 (by decide) ?_
    cases hD
    exact ri_M C hr hP hS dX12_tells_41
  · have hD := b_f c2 hD
    refine lv_aload_n C.1 C.2.1 dX12_tells_8 rfl (lv_at hl 0 rfl) ?_
    refine lv_iload_n C.1 C.2.1 dX12_tells_9 rfl (lv_at hl 2 rfl) ?_
    obtain ⟨r3, hd3, hD⟩ := bp_some hD
    refine kVi_M (As := [.int x2]) (rest := []) (ci := 12) (q0 := 0) C (c_X12_isRow l g H.size σ x2 hd3) kw_X12_113 ⟨rfl, rfl⟩ ⟨Nat.le_of_ble_eq_true rfl, Nat.le_of_ble_eq_true rfl⟩ kv_X12_isRow rfl rfl rfl hl.1 (Nat.le_of_ble_eq_true rfl) ⟨Nat.zero_le _, Nat.zero_le _⟩ dX12_tells_10 hP hS rfl (fun H locs hP hS => ?_)
    refine lv_if_eq (tgt := 39) C.1 C.2.1 dX12_tells_13 (by decide) (fun c4 => ?_) (fun c4 => ?_)
    · have hD := b_t c4 hD
      refine lv_bipush (v := (-101 : Int32)) C.1 C.2.1 dX12_tells_39 (by decide) ?_
      cases hD
      exact ri_M C hr hP hS dX12_tells_41
    · have hD := b_f c4 hD
      refine lv_aload_n C.1 C.2.1 dX12_tells_16 rfl (lv_at hl 0 rfl) ?_
      refine lv_iload_n C.1 C.2.1 dX12_tells_17 rfl (lv_at hl 3 rfl) ?_
      obtain ⟨r5, hd5, hD⟩ := bp_some hD
      refine kVi_M (As := [.int x3]) (rest := []) (ci := 12) (q0 := 0) C (c_X12_isRow l g H.size σ x3 hd5) kw_X12_113 ⟨rfl, rfl⟩ ⟨Nat.le_of_ble_eq_true rfl, Nat.le_of_ble_eq_true rfl⟩ kv_X12_isRow rfl rfl rfl hl.1 (Nat.le_of_ble_eq_true rfl) ⟨Nat.zero_le _, Nat.zero_le _⟩ dX12_tells_18 hP hS rfl (fun H locs hP hS => ?_)
      refine lv_if_eq (tgt := 39) C.1 C.2.1 dX12_tells_21 (by decide) (fun c6 => ?_) (fun c6 => ?_)
      · have hD := b_t c6 hD
        refine lv_bipush (v := (-101 : Int32)) C.1 C.2.1 dX12_tells_39 (by decide) ?_
        cases hD
        exact ri_M C hr hP hS dX12_tells_41
      · have hD := b_f c6 hD
        refine lv_aload_n C.1 C.2.1 dX12_tells_24 rfl (lv_at hl 0 rfl) ?_
        refine lv_aload_n C.1 C.2.1 dX12_tells_25 rfl (lv_at hl 0 rfl) ?_
        refine gf_X12_13_31 C hP dX12_tells_26 ?_
        refine lv_iload_n C.1 C.2.1 dX12_tells_29 rfl (lv_at hl 1 rfl) ?_
        obtain ⟨hi7, hD⟩ := gi_some hD
        refine iaM C hP 2 rfl hi7 dX12_tells_30 ?_
        refine lv_iload_n C.1 C.2.1 dX12_tells_31 rfl (lv_at hl 2 rfl) ?_
        refine lv_iload_n C.1 C.2.1 dX12_tells_32 rfl (lv_at hl 3 rfl) ?_
        obtain ⟨r8, hd8, hD⟩ := bp_some hD
        refine kVi_M (As := [.int (σ 33 x1.toNatClampNeg), .int x2, .int x3]) (rest := []) (ci := 12) (q0 := 0) C (c_X12_tellsBy l g H.size N σ (σ 33 x1.toNatClampNeg) x2 x3 hd8) kw_X12_116 ⟨rfl, rfl⟩ ⟨Nat.le_of_ble_eq_true rfl, Nat.le_of_ble_eq_true rfl⟩ kv_X12_tellsBy rfl rfl rfl hl.1 (Nat.le_of_ble_eq_true rfl) ⟨Nat.zero_le _, Nat.zero_le _⟩ dX12_tells_33 hP hS rfl (fun H locs hP hS => ?_)
        refine lv_goto (tgt := 41) C.1 C.2.1 dX12_tells_36 (by decide) ?_
        cases hD
        exact ri_M C hr hP hS dX12_tells_41
abbrev rm_X12_tryOne : Room := { frames := 3, cells := 0, slots := 0, locals := 75 }
set_option maxHeartbeats 4000000 in
set_option maxRecDepth 100000 in
theorem w_L_X12_tryOne_73 (C : CM g A p s m args meth c cX12_tryOne 7 RX12) (hr : meth.sig.returnType = some .int) (N : Nat) {h : Int64} {r : Int32} {u : St} (kc37 : Int32 → Int32 → St → Option (Int32 × St)) (x1 : Int32) (x2 : Int32) (x3 : Int32) (x4 : Int32) (x5 : Int32) (hk37 : ∀ (x3 : Int32) (x4 : Int32) (σ : St) (H : Heap) (locs : List Loc) (ls : Array Slot), lv_has ls 7 [(0, .ref (g.2.2 31)), (1, .int x1), (2, .int x2), (3, .int x3), (4, .int x4)] → va_P g.1 vwCl (wM g h σ) H → va_S A s.heap H locs → kc37 x3 x4 σ = some (r, u) → W p l e rm_X12_tryOne s m args below meth c H locs 0 0 (MQ below (QiM g h A r u) args s 0 0 A) (F0 m 37 ls [])) : ∀ (n : Nat) (x6 : Int32) (σ : St) (H : Heap) (locs : List Loc) (ls : Array Slot), lv_has ls 7 [(0, .ref (g.2.2 31)), (1, .int x1), (2, .int x2), (3, .int x3), (4, .int x4), (5, .int x5), (6, .int x6)] → va_P g.1 vwCl (wM g h σ) H → va_S A s.heap H locs → L_X12_tryOne_73 N kc37 x1 x2 x3 x4 x5 n x6 σ = some (r, u) → W p l e rm_X12_tryOne s m args below meth c H locs 0 0 (MQ below (QiM g h A r u) args s 0 0 A) (F0 m 73 ls []) := by
  intro n
  induction n with
  | zero =>
    intro x6 σ H locs ls hl hP hS hD
    rw [L_X12_tryOne_73] at hD
    cases hD
  | succ n ih =>
    intro x6 σ H locs ls hl hP hS hD
    rw [L_X12_tryOne_73] at hD
    refine lv_iload C.1 C.2.1 dX12_tryOne_73 (lv_at hl 6 rfl) ?_
    refine lv_aload_n C.1 C.2.1 dX12_tryOne_75 rfl (lv_at hl 0 rfl) ?_
    refine gf_X12_90_31 C hP dX12_tryOne_76 ?_
    refine lv_icmp_ge (tgt := 132) C.1 C.2.1 dX12_tryOne_79 (by decide) (fun c8 => ?_) (fun c8 => ?_)
    · have hD := b_t c8 hD
      refine lv_goto (tgt := 37) C.1 C.2.1 dX12_tryOne_132 (by decide) ?_
      exact hk37 x3 x4 σ H locs ls (lv_sub hl [0, 1, 2, 3, 4] rfl) hP hS hD
    · have hD := b_f c8 hD
      refine lv_aload_n C.1 C.2.1 dX12_tryOne_82 rfl (lv_at hl 0 rfl) ?_
      refine gf_X12_19_31 C hP dX12_tryOne_83 ?_
      refine lv_iload C.1 C.2.1 dX12_tryOne_86 (lv_at hl 6 rfl) ?_
      refine lv_aload_n C.1 C.2.1 dX12_tryOne_88 rfl (lv_at hl 0 rfl) ?_
      refine gf_X12_19_31 C hP dX12_tryOne_89 ?_
      refine lv_iload C.1 C.2.1 dX12_tryOne_92 (lv_at hl 6 rfl) ?_
      obtain ⟨hi9, hD⟩ := gi_some hD
      refine iaM C hP 4 rfl hi9 dX12_tryOne_94 ?_
      refine lv_iconst (v := (1 : Int32)) C.1 C.2.1 dX12_tryOne_95 (by decide) ?_
      refine lv_icmp_ne (tgt := 124) C.1 C.2.1 dX12_tryOne_96 (by decide) (fun c10 => ?_) (fun c10 => ?_)
      · have hD := b_f c10 hD
        refine lv_iconst (v := (0 : Int32)) C.1 C.2.1 dX12_tryOne_124 (by decide) ?_
        obtain ⟨hi11, hD⟩ := gi_some hD
        refine isM C hP hS 4 rfl hi11 dX12_tryOne_125 st_35 (fun H locs hP hS => ?_)
        refine lv_iinc (v := x6 + (1 : Int32)) (lv' := [(6, .int (x6 + (1 : Int32))), (0, .ref (g.2.2 31)), (1, .int x1), (2, .int x2), (3, .int x3), (4, .int x4), (5, .int x5)]) C.1 C.2.1 dX12_tryOne_126 hl (k := 6) rfl rfl (by decide) rfl (fun ls hl => ?_)
        refine lv_goto (tgt := 73) C.1 C.2.1 dX12_tryOne_129 (by decide) ?_
        exact ih (x6 + (1 : Int32)) (pt σ 35 x6.toNatClampNeg (0 : Int32)) H locs ls (lv_sub hl [1, 2, 3, 4, 5, 6, 0] rfl) hP hS hD
      · have hD := b_t c10 hD
        refine lv_iload C.1 C.2.1 dX12_tryOne_99 (lv_at hl 6 rfl) ?_
        refine lv_iload C.1 C.2.1 dX12_tryOne_101 (lv_at hl 4 rfl) ?_
        refine lv_icmp_eq (tgt := 124) C.1 C.2.1 dX12_tryOne_103 (by decide) (fun c12 => ?_) (fun c12 => ?_)
        · have hD := b_t c12 hD
          refine lv_iconst (v := (0 : Int32)) C.1 C.2.1 dX12_tryOne_124 (by decide) ?_
          obtain ⟨hi13, hD⟩ := gi_some hD
          refine isM C hP hS 4 rfl hi13 dX12_tryOne_125 st_35 (fun H locs hP hS => ?_)
          refine lv_iinc (v := x6 + (1 : Int32)) (lv' := [(6, .int (x6 + (1 : Int32))), (0, .ref (g.2.2 31)), (1, .int x1), (2, .int x2), (3, .int x3), (4, .int x4), (5, .int x5)]) C.1 C.2.1 dX12_tryOne_126 hl (k := 6) rfl rfl (by decide) rfl (fun ls hl => ?_)
          refine lv_goto (tgt := 73) C.1 C.2.1 dX12_tryOne_129 (by decide) ?_
          exact ih (x6 + (1 : Int32)) (pt σ 35 x6.toNatClampNeg (0 : Int32)) H locs ls (lv_sub hl [1, 2, 3, 4, 5, 6, 0] rfl) hP hS hD
        · have hD := b_f c12 hD
          refine lv_aload_n C.1 C.2.1 dX12_tryOne_106 rfl (lv_at hl 0 rfl) ?_
          refine lv_iload_n C.1 C.2.1 dX12_tryOne_107 rfl (lv_at hl 1 rfl) ?_
          refine lv_iload C.1 C.2.1 dX12_tryOne_108 (lv_at hl 4 rfl) ?_
          refine lv_iload C.1 C.2.1 dX12_tryOne_110 (lv_at hl 6 rfl) ?_
          obtain ⟨r14, hd14, hD⟩ := bp_some hD
          refine kVi_M (As := [.int x1, .int x4, .int x6]) (rest := [.int x6, .ref (g.2.2 35)]) (ci := 12) (q0 := 0) C (c_X12_tellsBy l g H.size N σ x1 x4 x6 hd14) kw_X12_116 ⟨rfl, rfl⟩ ⟨Nat.le_of_ble_eq_true rfl, Nat.le_of_ble_eq_true rfl⟩ kv_X12_tellsBy rfl rfl rfl hl.1 (Nat.le_of_ble_eq_true rfl) ⟨Nat.zero_le _, Nat.zero_le _⟩ dX12_tryOne_112 hP hS rfl (fun H locs hP hS => ?_)
          refine lv_iload C.1 C.2.1 dX12_tryOne_115 (lv_at hl 5 rfl) ?_
          refine lv_icmp_ne (tgt := 124) C.1 C.2.1 dX12_tryOne_117 (by decide) (fun c15 => ?_) (fun c15 => ?_)
          · have hD := b_f c15 hD
            refine lv_iconst (v := (0 : Int32)) C.1 C.2.1 dX12_tryOne_124 (by decide) ?_
            obtain ⟨hi16, hD⟩ := gi_some hD
            refine isM C hP hS 4 rfl hi16 dX12_tryOne_125 st_35 (fun H locs hP hS => ?_)
            refine lv_iinc (v := x6 + (1 : Int32)) (lv' := [(6, .int (x6 + (1 : Int32))), (0, .ref (g.2.2 31)), (1, .int x1), (2, .int x2), (3, .int x3), (4, .int x4), (5, .int x5)]) C.1 C.2.1 dX12_tryOne_126 hl (k := 6) rfl rfl (by decide) rfl (fun ls hl => ?_)
            refine lv_goto (tgt := 73) C.1 C.2.1 dX12_tryOne_129 (by decide) ?_
            exact ih (x6 + (1 : Int32)) (pt σ 35 x6.toNatClampNeg (0 : Int32)) H locs ls (lv_sub hl [1, 2, 3, 4, 5, 6, 0] rfl) hP hS hD
          · have hD := b_t c15 hD
            refine lv_iconst (v := (1 : Int32)) C.1 C.2.1 dX12_tryOne_120 (by decide) ?_
            refine lv_goto (tgt := 125) C.1 C.2.1 dX12_tryOne_121 (by decide) ?_
            obtain ⟨hi17, hD⟩ := gi_some hD
            refine isM C hP hS 4 rfl hi17 dX12_tryOne_125 st_35 (fun H locs hP hS => ?_)
            refine lv_iinc (v := x6 + (1 : Int32)) (lv' := [(6, .int (x6 + (1 : Int32))), (0, .ref (g.2.2 31)), (1, .int x1), (2, .int x2), (3, .int x3), (4, .int x4), (5, .int x5)]) C.1 C.2.1 dX12_tryOne_126 hl (k := 6) rfl rfl (by decide) rfl (fun ls hl => ?_)
            refine lv_goto (tgt := 73) C.1 C.2.1 dX12_tryOne_129 (by decide) ?_
            exact ih (x6 + (1 : Int32)) (pt σ 35 x6.toNatClampNeg (1 : Int32)) H locs ls (lv_sub hl [1, 2, 3, 4, 5, 6, 0] rfl) hP hS hD
set_option maxHeartbeats 4000000 in
set_option maxRecDepth 100000 in
theorem w_L_X12_tryOne_37 (C : CM g A p s m args meth c cX12_tryOne 7 RX12) (hr : meth.sig.returnType = some .int) (N : Nat) {h : Int64} {r : Int32} {u : St} (x1 : Int32) (x2 : Int32) : ∀ (n : Nat) (x3 : Int32) (x4 : Int32) (σ : St) (H : Heap) (locs : List Loc) (ls : Array Slot), lv_has ls 7 [(0, .ref (g.2.2 31)), (1, .int x1), (2, .int x2), (3, .int x3), (4, .int x4)] → va_P g.1 vwCl (wM g h σ) H → va_S A s.heap H locs → L_X12_tryOne_37 N x1 x2 n x3 x4 σ = some (r, u) → W p l e rm_X12_tryOne s m args below meth c H locs 0 0 (MQ below (QiM g h A r u) args s 0 0 A) (F0 m 37 ls []) := by
  intro n
  induction n with
  | zero =>
    intro x3 x4 σ H locs ls hl hP hS hD
    rw [L_X12_tryOne_37] at hD
    cases hD
  | succ n ih =>
    intro x3 x4 σ H locs ls hl hP hS hD
    rw [L_X12_tryOne_37] at hD
    refine lv_iload C.1 C.2.1 dX12_tryOne_37 (lv_at hl 4 rfl) ?_
    refine lv_iload_n C.1 C.2.1 dX12_tryOne_39 rfl (lv_at hl 2 rfl) ?_
    refine lv_icmp_eq (tgt := 135) C.1 C.2.1 dX12_tryOne_40 (by decide) (fun c3 => ?_) (fun c3 => ?_)
    · have hD := b_t c3 hD
      refine lv_iload_n C.1 C.2.1 dX12_tryOne_135 rfl (lv_at hl 3 rfl) ?_
      cases hD
      exact ri_M C hr hP hS dX12_tryOne_136
    · have hD := b_f c3 hD
      refine lv_aload_n C.1 C.2.1 dX12_tryOne_43 rfl (lv_at hl 0 rfl) ?_
      refine lv_aload_n C.1 C.2.1 dX12_tryOne_44 rfl (lv_at hl 0 rfl) ?_
      refine lv_aload_n C.1 C.2.1 dX12_tryOne_45 rfl (lv_at hl 0 rfl) ?_
      obtain ⟨r4, hd4, hD⟩ := bp_some hD
      refine kVi_M (As := []) (rest := [.ref (g.2.2 31), .ref (g.2.2 31)]) (ci := 12) (q0 := 0) C (c_X12_fitMany l g H.size N σ hd4) kw_X12_126 ⟨rfl, rfl⟩ ⟨Nat.le_of_ble_eq_true rfl, Nat.le_of_ble_eq_true rfl⟩ kv_X12_fitMany rfl rfl rfl hl.1 (Nat.le_of_ble_eq_true rfl) ⟨Nat.zero_le _, Nat.zero_le _⟩ dX12_tryOne_46 hP hS rfl (fun H locs hP hS => ?_)
      obtain ⟨r5, s5, hd5, hD⟩ := bs_some hD
      refine kVi_M (As := [.int r4]) (rest := [.ref (g.2.2 31)]) (ci := 12) (q0 := 0) C (c_X12_draw l g H.size σ r4 hd5) kw_X12_223 ⟨rfl, rfl⟩ ⟨Nat.le_of_ble_eq_true rfl, Nat.le_of_ble_eq_true rfl⟩ kv_X12_draw rfl rfl rfl hl.1 (Nat.le_of_ble_eq_true rfl) ⟨Nat.zero_le _, Nat.zero_le _⟩ dX12_tryOne_49 hP hS rfl (fun H locs hP hS => ?_)
      obtain ⟨r6, hd6, hD⟩ := bp_some hD
      refine kVi_M (As := [.int r5]) (rest := []) (ci := 12) (q0 := 0) C (c_X12_soManieth l g H.size N s5 r5 hd6) kw_X12_226 ⟨rfl, rfl⟩ ⟨Nat.le_of_ble_eq_true rfl, Nat.le_of_ble_eq_true rfl⟩ kv_X12_soManieth rfl rfl rfl hl.1 (Nat.le_of_ble_eq_true rfl) ⟨Nat.zero_le _, Nat.zero_le _⟩ dX12_tryOne_52 hP hS rfl (fun H locs hP hS => ?_)
      refine lv_istore (lv' := [(4, .int r6), (0, .ref (g.2.2 31)), (1, .int x1), (2, .int x2), (3, .int x3)]) C.1 C.2.1 dX12_tryOne_55 hl (by decide) rfl (fun ls hl => ?_)
      refine lv_iinc (v := x3 + (1 : Int32)) (lv' := [(3, .int (x3 + (1 : Int32))), (4, .int r6), (0, .ref (g.2.2 31)), (1, .int x1), (2, .int x2)]) C.1 C.2.1 dX12_tryOne_57 hl (k := 4) rfl rfl (by decide) rfl (fun ls hl => ?_)
      refine lv_aload_n C.1 C.2.1 dX12_tryOne_60 rfl (lv_at hl 2 rfl) ?_
      refine lv_iload_n C.1 C.2.1 dX12_tryOne_61 rfl (lv_at hl 3 rfl) ?_
      refine lv_iload C.1 C.2.1 dX12_tryOne_62 (lv_at hl 1 rfl) ?_
      refine lv_iload_n C.1 C.2.1 dX12_tryOne_64 rfl (lv_at hl 4 rfl) ?_
      obtain ⟨r7, hd7, hD⟩ := bp_some hD
      refine kVi_M (As := [.int x1, .int r6, .int x2]) (rest := []) (ci := 12) (q0 := 0) C (c_X12_tellsBy l g H.size N s5 x1 r6 x2 hd7) kw_X12_116 ⟨rfl, rfl⟩ ⟨Nat.le_of_ble_eq_true rfl, Nat.le_of_ble_eq_true rfl⟩ kv_X12_tellsBy rfl rfl rfl hl.1 (Nat.le_of_ble_eq_true rfl) ⟨Nat.zero_le _, Nat.zero_le _⟩ dX12_tryOne_65 hP hS rfl (fun H locs hP hS => ?_)
      refine lv_istore (lv' := [(5, .int r7), (3, .int (x3 + (1 : Int32))), (4, .int r6), (0, .ref (g.2.2 31)), (1, .int x1), (2, .int x2)]) C.1 C.2.1 dX12_tryOne_68 hl (by decide) rfl (fun ls hl => ?_)
      refine lv_iconst (v := (0 : Int32)) C.1 C.2.1 dX12_tryOne_70 (by decide) ?_
      refine lv_istore (lv' := [(6, .int (0 : Int32)), (5, .int r7), (3, .int (x3 + (1 : Int32))), (4, .int r6), (0, .ref (g.2.2 31)), (1, .int x1), (2, .int x2)]) C.1 C.2.1 dX12_tryOne_71 hl (by decide) rfl (fun ls hl => ?_)
      exact w_L_X12_tryOne_73 C hr N (L_X12_tryOne_37 N x1 x2 n) x1 x2 (x3 + (1 : Int32)) r6 r7 ih N (0 : Int32) s5 H locs ls (lv_sub hl [4, 5, 6, 2, 3, 1, 0] rfl) hP hS hD
set_option maxHeartbeats 4000000 in
set_option maxRecDepth 100000 in
theorem w_L_X12_tryOne_11 (C : CM g A p s m args meth c cX12_tryOne 7 RX12) (hr : meth.sig.returnType = some .int) (N : Nat) {h : Int64} {r : Int32} {u : St} (x1 : Int32) (x2 : Int32) : ∀ (n : Nat) (x3 : Int32) (σ : St) (H : Heap) (locs : List Loc) (ls : Array Slot), lv_has ls 7 [(0, .ref (g.2.2 31)), (1, .int x1), (2, .int x2), (3, .int x3)] → va_P g.1 vwCl (wM g h σ) H → va_S A s.heap H locs → L_X12_tryOne_11 N x1 x2 n x3 σ = some (r, u) → W p l e rm_X12_tryOne s m args below meth c H locs 0 0 (MQ below (QiM g h A r u) args s 0 0 A) (F0 m 11 ls []) := by
  intro n
  induction n with
  | zero =>
    intro x3 σ H locs ls hl hP hS hD
    rw [L_X12_tryOne_11] at hD
    cases hD
  | succ n ih =>
    intro x3 σ H locs ls hl hP hS hD
    rw [L_X12_tryOne_11] at hD
    refine lv_iload_n C.1 C.2.1 dX12_tryOne_11 rfl (lv_at hl 3 rfl) ?_
    refine lv_aload_n C.1 C.2.1 dX12_tryOne_12 rfl (lv_at hl 0 rfl) ?_
    refine gf_X12_90_31 C hP dX12_tryOne_13 ?_
    refine lv_icmp_ge (tgt := 32) C.1 C.2.1 dX12_tryOne_16 (by decide) (fun c2 => ?_) (fun c2 => ?_)
    · have hD := b_t c2 hD
      refine lv_iconst (v := (0 : Int32)) C.1 C.2.1 dX12_tryOne_32 (by decide) ?_
      refine lv_istore_n (lv' := [(3, .int (0 : Int32)), (0, .ref (g.2.2 31)), (1, .int x1), (2, .int x2)]) C.1 C.2.1 dX12_tryOne_33 rfl hl (by decide) rfl (fun ls hl => ?_)
      refine lv_iconst (v := (-1 : Int32)) C.1 C.2.1 dX12_tryOne_34 (by decide) ?_
      refine lv_istore (lv' := [(4, .int (-1 : Int32)), (3, .int (0 : Int32)), (0, .ref (g.2.2 31)), (1, .int x1), (2, .int x2)]) C.1 C.2.1 dX12_tryOne_35 hl (by decide) rfl (fun ls hl => ?_)
      exact w_L_X12_tryOne_37 C hr N x1 x2 N (0 : Int32) (-1 : Int32) σ H locs ls (lv_sub hl [2, 3, 4, 1, 0] rfl) hP hS hD
    · have hD := b_f c2 hD
      refine lv_aload_n C.1 C.2.1 dX12_tryOne_19 rfl (lv_at hl 0 rfl) ?_
      refine gf_X12_19_31 C hP dX12_tryOne_20 ?_
      refine lv_iload_n C.1 C.2.1 dX12_tryOne_23 rfl (lv_at hl 3 rfl) ?_
      refine lv_iconst (v := (1 : Int32)) C.1 C.2.1 dX12_tryOne_24 (by decide) ?_
      obtain ⟨hi18, hD⟩ := gi_some hD
      refine isM C hP hS 4 rfl hi18 dX12_tryOne_25 st_35 (fun H locs hP hS => ?_)
      refine lv_iinc (v := x3 + (1 : Int32)) (lv' := [(3, .int (x3 + (1 : Int32))), (0, .ref (g.2.2 31)), (1, .int x1), (2, .int x2)]) C.1 C.2.1 dX12_tryOne_26 hl (k := 3) rfl rfl (by decide) rfl (fun ls hl => ?_)
      refine lv_goto (tgt := 11) C.1 C.2.1 dX12_tryOne_29 (by decide) ?_
      exact ih (x3 + (1 : Int32)) (pt σ 35 x3.toNatClampNeg (1 : Int32)) H locs ls (lv_sub hl [1, 2, 3, 0] rfl) hP hS hD
set_option maxHeartbeats 4000000 in
set_option maxRecDepth 100000 in
theorem c_X12_tryOne (l : Launch) (g : Gx) (sz : Nat) (N : Nat) (σ : St) (x1 : Int32) {h : Int64} {r : Int32} {u : St} (hD : D_X12_tryOne N σ x1 = some (r, u)) : Met l yX12_tryOne (Cond.code yX12_tryOne cX12_tryOne 7 (some .int) :: tb) rm_X12_tryOne (PcM g h [.ref (g.2.2 31), .int x1] σ sz) (QiM g h (AM g sz) r u) 0 0 (AM g sz) := by
  refine Met.ofW (cc := cX12_tryOne) (maxL := 7) (ret := some .int) (by decide) rfl ?_
  intro p e s m args below meth c s₁ B hml hv
  have hv0 := hv
  obtain ⟨rfl, hsz, hP, -⟩ := hv
  subst hsz
  have C : CM g (AM g s.heap.size) p s m _ meth c cX12_tryOne 7 RX12 := CM.of B hml (fun w h => List.mem_cons_of_mem _ h) rfl hv0
  have hr := B.returns
  have hS : va_S (AM g s.heap.size) s.heap s.heap [] := va_S.rf
  have hl := lv_entry ([.ref (g.2.2 31), .int x1]) (n := 7) (Nat.le_of_ble_eq_true rfl)
  rw [lg_entry_eq]
  generalize (lg_sl ([.ref (g.2.2 31), .int x1]) ++ List.replicate (7 - (lg_sl ([.ref (g.2.2 31), .int x1])).length) Slot.unset).toArray = ls at hl ⊢
  have hl : lv_has ls 7 [(0, .ref (g.2.2 31)), (1, .int x1)] := hl
  obtain ⟨H, hH⟩ : ∃ H, H = s.heap := ⟨_, rfl⟩
  have hP : va_P g.1 vwCl (wM g h σ) H := by rw [hH]; exact hP
  have hS : va_S (AM g s.heap.size) s.heap H [] := by rw [hH]; exact hS
  refine wH hH ?_
  obtain ⟨locs, hlo⟩ : ∃ locs : List Loc, locs = [] := ⟨_, rfl⟩
  rw [← hlo] at hS
  refine wL hlo ?_
  unfold D_X12_tryOne at hD
  refine lv_aload_n C.1 C.2.1 dX12_tryOne_0 rfl (lv_at hl 0 rfl) ?_
  refine lv_aload_n C.1 C.2.1 dX12_tryOne_1 rfl (lv_at hl 0 rfl) ?_
  refine gf_X12_90_31 C hP dX12_tryOne_2 ?_
  obtain ⟨r1, s1, hd1, hD⟩ := bs_some hD
  refine kVi_M (As := [.int (σ 31 5)]) (rest := []) (ci := 12) (q0 := 0) C (c_X12_draw l g H.size σ (σ 31 5) hd1) kw_X12_223 ⟨rfl, rfl⟩ ⟨Nat.le_of_ble_eq_true rfl, Nat.le_of_ble_eq_true rfl⟩ kv_X12_draw rfl rfl rfl hl.1 (Nat.le_of_ble_eq_true rfl) ⟨Nat.zero_le _, Nat.zero_le _⟩ dX12_tryOne_5 hP hS rfl (fun H locs hP hS => ?_)
  refine lv_istore_n (lv' := [(2, .int r1), (0, .ref (g.2.2 31)), (1, .int x1)]) C.1 C.2.1 dX12_tryOne_8 rfl hl (by decide) rfl (fun ls hl => ?_)
  refine lv_iconst (v := (0 : Int32)) C.1 C.2.1 dX12_tryOne_9 (by decide) ?_
  refine lv_istore_n (lv' := [(3, .int (0 : Int32)), (2, .int r1), (0, .ref (g.2.2 31)), (1, .int x1)]) C.1 C.2.1 dX12_tryOne_10 rfl hl (by decide) rfl (fun ls hl => ?_)
  exact w_L_X12_tryOne_11 C hr N x1 r1 N (0 : Int32) s1 H locs ls (lv_sub hl [2, 3, 1, 0] rfl) hP hS hD
abbrev rm_X12_tries : Room := { frames := 4, cells := 0, slots := 0, locals := 101 }
set_option maxHeartbeats 4000000 in
set_option maxRecDepth 100000 in
theorem w_L_X12_tries_57 (C : CM g A p s m args meth c cX12_tries 9 RX12) (hr : meth.sig.returnType = some .int) (N : Nat) {h : Int64} {r : Int32} {u : St} (x1 : Int32) (x2 : Int32) (x4 : Int32) : ∀ (n : Nat) (x5 : Int32) (x6 : Int32) (x7 : Int32) (σ : St) (H : Heap) (locs : List Loc) (ls : Array Slot), lv_has ls 9 [(0, .ref (g.2.2 31)), (1, .int x1), (2, .int x2), (4, .int x4), (5, .int x5), (6, .int x6), (7, .int x7)] → va_P g.1 vwCl (wM g h σ) H → va_S A s.heap H locs → L_X12_tries_57 N x1 x2 x4 n x5 x6 x7 σ = some (r, u) → W p l e rm_X12_tries s m args below meth c H locs 0 0 (MQ below (QiM g h A r u) args s 0 0 A) (F0 m 57 ls []) := by
  intro n
  induction n with
  | zero =>
    intro x5 x6 x7 σ H locs ls hl hP hS hD
    rw [L_X12_tries_57] at hD
    cases hD
  | succ n ih =>
    intro x5 x6 x7 σ H locs ls hl hP hS hD
    rw [L_X12_tries_57] at hD
    refine lv_iload C.1 C.2.1 dX12_tries_57 (lv_at hl 6 rfl) ?_
    refine lv_iload_n C.1 C.2.1 dX12_tries_59 rfl (lv_at hl 2 rfl) ?_
    refine lv_icmp_ge (tgt := 104) C.1 C.2.1 dX12_tries_60 (by decide) (fun c8 => ?_) (fun c8 => ?_)
    · have hD := b_t c8 hD
      refine lv_iload C.1 C.2.1 dX12_tries_104 (lv_at hl 3 rfl) ?_
      refine lv_if_ne (tgt := 114) C.1 C.2.1 dX12_tries_106 (by decide) (fun c9 => ?_) (fun c9 => ?_)
      · have hD := b_f c9 hD
        refine lv_iload C.1 C.2.1 dX12_tries_114 (lv_at hl 3 rfl) ?_
        refine lv_iconst (v := (1 : Int32)) C.1 C.2.1 dX12_tries_116 (by decide) ?_
        refine lv_icmp_ne (tgt := 125) C.1 C.2.1 dX12_tries_117 (by decide) (fun c10 => ?_) (fun c10 => ?_)
        · have hD := b_f c10 hD
          refine lv_aload_n C.1 C.2.1 dX12_tries_125 rfl (lv_at hl 0 rfl) ?_
          refine gf_X12_215_31 C hP dX12_tries_126 ?_
          cases hD
          exact ri_M C hr hP hS dX12_tries_129
        · have hD := b_t c10 hD
          refine lv_iload C.1 C.2.1 dX12_tries_120 (lv_at hl 5 rfl) ?_
          refine lv_goto (tgt := 129) C.1 C.2.1 dX12_tries_122 (by decide) ?_
          cases hD
          exact ri_M C hr hP hS dX12_tries_129
      · have hD := b_t c9 hD
        refine lv_iload C.1 C.2.1 dX12_tries_109 (lv_at hl 4 rfl) ?_
        refine lv_goto (tgt := 129) C.1 C.2.1 dX12_tries_111 (by decide) ?_
        cases hD
        exact ri_M C hr hP hS dX12_tries_129
    · have hD := b_f c8 hD
      refine lv_aload_n C.1 C.2.1 dX12_tries_63 rfl (lv_at hl 0 rfl) ?_
      refine lv_aload_n C.1 C.2.1 dX12_tries_64 rfl (lv_at hl 0 rfl) ?_
      refine gf_X12_13_31 C hP dX12_tries_65 ?_
      refine lv_iload_n C.1 C.2.1 dX12_tries_68 rfl (lv_at hl 1 rfl) ?_
      obtain ⟨hi11, hD⟩ := gi_some hD
      refine iaM C hP 2 rfl hi11 dX12_tries_69 ?_
      obtain ⟨r12, s12, hd12, hD⟩ := bs_some hD
      refine kVi_M (As := [.int (σ 33 x1.toNatClampNeg)]) (rest := []) (ci := 12) (q0 := 0) C (c_X12_tryOne l g H.size N σ (σ 33 x1.toNatClampNeg) hd12) kw_X12_231 ⟨rfl, rfl⟩ ⟨Nat.le_of_ble_eq_true rfl, Nat.le_of_ble_eq_true rfl⟩ kv_X12_tryOne rfl rfl rfl hl.1 (Nat.le_of_ble_eq_true rfl) ⟨Nat.zero_le _, Nat.zero_le _⟩ dX12_tries_70 hP hS rfl (fun H locs hP hS => ?_)
      refine lv_istore (lv' := [(8, .int r12), (0, .ref (g.2.2 31)), (1, .int x1), (2, .int x2), (4, .int x4), (5, .int x5), (6, .int x6), (7, .int x7)]) C.1 C.2.1 dX12_tries_73 hl (by decide) rfl (fun ls hl => ?_)
      refine lv_iload C.1 C.2.1 dX12_tries_75 (lv_at hl 5 rfl) ?_
      refine lv_iload C.1 C.2.1 dX12_tries_77 (lv_at hl 0 rfl) ?_
      refine lv_iadd C.1 C.2.1 dX12_tries_79 ?_
      refine lv_istore (lv' := [(5, .int (x5 + r12)), (8, .int r12), (0, .ref (g.2.2 31)), (1, .int x1), (2, .int x2), (4, .int x4), (6, .int x6), (7, .int x7)]) C.1 C.2.1 dX12_tries_80 hl (by decide) rfl (fun ls hl => ?_)
      refine lv_iload C.1 C.2.1 dX12_tries_82 (lv_at hl 6 rfl) ?_
      refine lv_iload C.1 C.2.1 dX12_tries_84 (lv_at hl 1 rfl) ?_
      refine lv_iconst (v := (4 : Int32)) C.1 C.2.1 dX12_tries_86 (by decide) ?_
      refine lv_icmp_ge (tgt := 94) C.1 C.2.1 dX12_tries_87 (by decide) (fun c13 => ?_) (fun c13 => ?_)
      · have hD := b_t c13 hD
        refine lv_iconst (v := (0 : Int32)) C.1 C.2.1 dX12_tries_94 (by decide) ?_
        refine lv_iadd C.1 C.2.1 dX12_tries_95 ?_
        refine lv_istore (lv' := [(6, .int (x6 + (0 : Int32))), (5, .int (x5 + r12)), (8, .int r12), (0, .ref (g.2.2 31)), (1, .int x1), (2, .int x2), (4, .int x4), (7, .int x7)]) C.1 C.2.1 dX12_tries_96 hl (by decide) rfl (fun ls hl => ?_)
        refine lv_iinc (v := x7 + (1 : Int32)) (lv' := [(7, .int (x7 + (1 : Int32))), (6, .int (x6 + (0 : Int32))), (5, .int (x5 + r12)), (8, .int r12), (0, .ref (g.2.2 31)), (1, .int x1), (2, .int x2), (4, .int x4)]) C.1 C.2.1 dX12_tries_98 hl (k := 7) rfl rfl (by decide) rfl (fun ls hl => ?_)
        refine lv_goto (tgt := 57) C.1 C.2.1 dX12_tries_101 (by decide) ?_
        exact ih (x5 + r12) (x6 + (0 : Int32)) (x7 + (1 : Int32)) s12 H locs ls (lv_sub hl [4, 5, 6, 7, 2, 1, 0] rfl) hP hS hD
      · have hD := b_f c13 hD
        refine lv_iconst (v := (1 : Int32)) C.1 C.2.1 dX12_tries_90 (by decide) ?_
        refine lv_goto (tgt := 95) C.1 C.2.1 dX12_tries_91 (by decide) ?_
        refine lv_iadd C.1 C.2.1 dX12_tries_95 ?_
        refine lv_istore (lv' := [(6, .int (x6 + (1 : Int32))), (5, .int (x5 + r12)), (8, .int r12), (0, .ref (g.2.2 31)), (1, .int x1), (2, .int x2), (4, .int x4), (7, .int x7)]) C.1 C.2.1 dX12_tries_96 hl (by decide) rfl (fun ls hl => ?_)
        refine lv_iinc (v := x7 + (1 : Int32)) (lv' := [(7, .int (x7 + (1 : Int32))), (6, .int (x6 + (1 : Int32))), (5, .int (x5 + r12)), (8, .int r12), (0, .ref (g.2.2 31)), (1, .int x1), (2, .int x2), (4, .int x4)]) C.1 C.2.1 dX12_tries_98 hl (k := 7) rfl rfl (by decide) rfl (fun ls hl => ?_)
        refine lv_goto (tgt := 57) C.1 C.2.1 dX12_tries_101 (by decide) ?_
        exact ih (x5 + r12) (x6 + (1 : Int32)) (x7 + (1 : Int32)) s12 H locs ls (lv_sub hl [4, 5, 6, 7, 2, 1, 0] rfl) hP hS hD
set_option maxHeartbeats 4000000 in
set_option maxRecDepth 100000 in
theorem c_X12_tries (l : Launch) (g : Gx) (sz : Nat) (N : Nat) (σ : St) (x1 : Int32) (x2 : Int32) (x3 : Int32) (x4 : Int32) {h : Int64} {r : Int32} {u : St} (hD : D_X12_tries N σ x1 x2 x3 x4 = some (r, u)) : Met l yX12_tries (Cond.code yX12_tries cX12_tries 9 (some .int) :: tb) rm_X12_tries (PcM g h [.ref (g.2.2 31), .int x1, .int x2, .int x3, .int x4] σ sz) (QiM g h (AM g sz) r u) 0 0 (AM g sz) := by
  refine Met.ofW (cc := cX12_tries) (maxL := 9) (ret := some .int) (by decide) rfl ?_
  intro p e s m args below meth c s₁ B hml hv
  have hv0 := hv
  obtain ⟨rfl, hsz, hP, -⟩ := hv
  subst hsz
  have C : CM g (AM g s.heap.size) p s m _ meth c cX12_tries 9 RX12 := CM.of B hml (fun w h => List.mem_cons_of_mem _ h) rfl hv0
  have hr := B.returns
  have hS : va_S (AM g s.heap.size) s.heap s.heap [] := va_S.rf
  have hl := lv_entry ([.ref (g.2.2 31), .int x1, .int x2, .int x3, .int x4]) (n := 9) (Nat.le_of_ble_eq_true rfl)
  rw [lg_entry_eq]
  generalize (lg_sl ([.ref (g.2.2 31), .int x1, .int x2, .int x3, .int x4]) ++ List.replicate (9 - (lg_sl ([.ref (g.2.2 31), .int x1, .int x2, .int x3, .int x4])).length) Slot.unset).toArray = ls at hl ⊢
  have hl : lv_has ls 9 [(0, .ref (g.2.2 31)), (1, .int x1), (2, .int x2), (3, .int x3), (4, .int x4)] := hl
  obtain ⟨H, hH⟩ : ∃ H, H = s.heap := ⟨_, rfl⟩
  have hP : va_P g.1 vwCl (wM g h σ) H := by rw [hH]; exact hP
  have hS : va_S (AM g s.heap.size) s.heap H [] := by rw [hH]; exact hS
  refine wH hH ?_
  obtain ⟨locs, hlo⟩ : ∃ locs : List Loc, locs = [] := ⟨_, rfl⟩
  rw [← hlo] at hS
  refine wL hlo ?_
  unfold D_X12_tries at hD
  refine lv_aload_n C.1 C.2.1 dX12_tries_0 rfl (lv_at hl 0 rfl) ?_
  refine lv_iload_n C.1 C.2.1 dX12_tries_1 rfl (lv_at hl 1 rfl) ?_
  obtain ⟨r1, hd1, hD⟩ := bp_some hD
  refine kVi_M (As := [.int x1]) (rest := []) (ci := 12) (q0 := 0) C (c_X12_isJudge l g H.size σ x1 hd1) kw_X12_110 ⟨rfl, rfl⟩ ⟨Nat.le_of_ble_eq_true rfl, Nat.le_of_ble_eq_true rfl⟩ kv_X12_isJudge rfl rfl rfl hl.1 (Nat.le_of_ble_eq_true rfl) ⟨Nat.zero_le _, Nat.zero_le _⟩ dX12_tries_2 hP hS rfl (fun H locs hP hS => ?_)
  refine lv_if_ne (tgt := 11) C.1 C.2.1 dX12_tries_5 (by decide) (fun c2 => ?_) (fun c2 => ?_)
  · have hD := b_f c2 hD
    refine lv_iload_n C.1 C.2.1 dX12_tries_11 rfl (lv_at hl 2 rfl) ?_
    refine lv_i2l C.1 C.2.1 dX12_tries_12 rfl ?_
    refine lv_lconst (v := (1 : Int64)) C.1 C.2.1 dX12_tries_13 (by decide) ?_
    refine lv_ldc2 (v := (20 : Int64)) (own := RX12) C.1 C.2.1 C.2.2.2.1 (C.2.2.2.2.1 (.constantLong RX12 229 (20 : Int64)) (tb_in 1093 (by decide +kernel) (by decide +kernel))) dX12_tries_14 ?_
    obtain ⟨r3, hd3, hD⟩ := bp_some hD
    refine kSi_M (As := [.long x2.toInt64, .long (1 : Int64), .long (20 : Int64)]) (rest := []) C (c_X12_in l g H.size σ x2.toInt64 (1 : Int64) (20 : Int64) hd3) kw_X12_46 ⟨rfl, rfl⟩ ⟨Nat.le_of_ble_eq_true rfl, Nat.le_of_ble_eq_true rfl⟩ ks_X12_in rfl hl.1 (Nat.le_of_ble_eq_true rfl) ⟨Nat.zero_le _, Nat.zero_le _⟩ dX12_tries_17 hP hS rfl (fun H locs hP hS => ?_)
    refine lv_if_eq (tgt := 40) C.1 C.2.1 dX12_tries_20 (by decide) (fun c4 => ?_) (fun c4 => ?_)
    · have hD := b_t c4 hD
      refine lv_bipush (v := (-102 : Int32)) C.1 C.2.1 dX12_tries_40 (by decide) ?_
      cases hD
      exact ri_M C hr hP hS dX12_tries_42
    · have hD := b_f c4 hD
      refine lv_iload_n C.1 C.2.1 dX12_tries_23 rfl (lv_at hl 3 rfl) ?_
      refine lv_if_lt (tgt := 40) C.1 C.2.1 dX12_tries_24 (by decide) (fun c5 => ?_) (fun c5 => ?_)
      · have hD := b_t c5 hD
        refine lv_bipush (v := (-102 : Int32)) C.1 C.2.1 dX12_tries_40 (by decide) ?_
        cases hD
        exact ri_M C hr hP hS dX12_tries_42
      · have hD := b_f c5 hD
        refine lv_iload C.1 C.2.1 dX12_tries_27 (lv_at hl 4 rfl) ?_
        refine lv_i2l C.1 C.2.1 dX12_tries_29 rfl ?_
        refine lv_lconst (v := (0 : Int64)) C.1 C.2.1 dX12_tries_30 (by decide) ?_
        refine lv_ldc2 (v := (2 : Int64)) (own := RX12) C.1 C.2.1 C.2.2.2.1 (C.2.2.2.2.1 (.constantLong RX12 159 (2 : Int64)) (tb_in 1007 (by decide +kernel) (by decide +kernel))) dX12_tries_31 ?_
        obtain ⟨r6, hd6, hD⟩ := bp_some hD
        refine kSi_M (As := [.long x4.toInt64, .long (0 : Int64), .long (2 : Int64)]) (rest := []) C (c_X12_in l g H.size σ x4.toInt64 (0 : Int64) (2 : Int64) hd6) kw_X12_46 ⟨rfl, rfl⟩ ⟨Nat.le_of_ble_eq_true rfl, Nat.le_of_ble_eq_true rfl⟩ ks_X12_in rfl hl.1 (Nat.le_of_ble_eq_true rfl) ⟨Nat.zero_le _, Nat.zero_le _⟩ dX12_tries_34 hP hS rfl (fun H locs hP hS => ?_)
        refine lv_if_ne (tgt := 43) C.1 C.2.1 dX12_tries_37 (by decide) (fun c7 => ?_) (fun c7 => ?_)
        · have hD := b_f c7 hD
          refine lv_aload_n C.1 C.2.1 dX12_tries_43 rfl (lv_at hl 0 rfl) ?_
          refine lv_iload_n C.1 C.2.1 dX12_tries_44 rfl (lv_at hl 3 rfl) ?_
          refine pf_X12_215_31 C hP hS dX12_tries_45 (fun H locs hP hS => ?_)
          refine lv_iconst (v := (0 : Int32)) C.1 C.2.1 dX12_tries_48 (by decide) ?_
          refine lv_istore (lv' := [(5, .int (0 : Int32)), (0, .ref (g.2.2 31)), (1, .int x1), (2, .int x2), (3, .int x3), (4, .int x4)]) C.1 C.2.1 dX12_tries_49 hl (by decide) rfl (fun ls hl => ?_)
          refine lv_iconst (v := (0 : Int32)) C.1 C.2.1 dX12_tries_51 (by decide) ?_
          refine lv_istore (lv' := [(6, .int (0 : Int32)), (5, .int (0 : Int32)), (0, .ref (g.2.2 31)), (1, .int x1), (2, .int x2), (3, .int x3), (4, .int x4)]) C.1 C.2.1 dX12_tries_52 hl (by decide) rfl (fun ls hl => ?_)
          refine lv_iconst (v := (0 : Int32)) C.1 C.2.1 dX12_tries_54 (by decide) ?_
          refine lv_istore (lv' := [(7, .int (0 : Int32)), (6, .int (0 : Int32)), (5, .int (0 : Int32)), (0, .ref (g.2.2 31)), (1, .int x1), (2, .int x2), (3, .int x3), (4, .int x4)]) C.1 C.2.1 dX12_tries_55 hl (by decide) rfl (fun ls hl => ?_)
          exact w_L_X12_tries_57 C hr N x1 x2 x4 N (0 : Int32) (0 : Int32) (0 : Int32) (pt σ 31 20 x3) H locs ls (lv_sub hl [3, 4, 5, 7, 2, 1, 0] rfl) hP hS hD
        · have hD := b_t c7 hD
          refine lv_bipush (v := (-102 : Int32)) C.1 C.2.1 dX12_tries_40 (by decide) ?_
          cases hD
          exact ri_M C hr hP hS dX12_tries_42
  · have hD := b_t c2 hD
    refine lv_bipush (v := (-101 : Int32)) C.1 C.2.1 dX12_tries_8 (by decide) ?_
    cases hD
    exact ri_M C hr hP hS dX12_tries_10
end WLK
