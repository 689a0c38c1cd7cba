section WLK
variable {p : Program} {l : Launch} {e : Env} {s : State} {m : MethodId} {args : Array Value} {below : List Frame} {meth : Method} {c : Code} {g : Gx} {A : Nat → Prop}
abbrev rm_X12_peg : Room := { frames := 0, cells := 0, slots := 0, locals := 0 }
set_option maxHeartbeats 4000000 in
set_option maxRecDepth 100000 in
theorem w_L_X12_peg_7 (C : CM g A p s m args meth c cX12_peg 5 RX12) (hr : meth.sig.returnType = some .int) (N : Nat) (σ : St) {h : Int64} {r : Int32} : ∀ (n : Nat) (x3 : Int32) (x4 : Int32) (H : Heap) (locs : List Loc) (ls : Array Slot), lv_has ls 5 [(0, .ref (g.2.2 31)), (3, .int x3), (4, .int x4)] → va_P g.1 vwCl (wM g h σ) H → va_S A s.heap H locs → L_X12_peg_7 N σ n x3 x4 = some r → W p l e rm_X12_peg s m args below meth c H locs 0 0 (MQ below (QiM g h A r σ) args s 0 0 A) (F0 m 7 ls []) := by
  intro n
  induction n with
  | zero =>
    intro x3 x4 H locs ls hl hP hS hD
    rw [L_X12_peg_7] at hD
    cases hD
  | succ n ih =>
    intro x3 x4 H locs ls hl hP hS hD
    rw [L_X12_peg_7] at hD
    refine lv_iload C.1 C.2.1 dX12_peg_7 (lv_at hl 2 rfl) ?_
    refine lv_aload_n C.1 C.2.1 dX12_peg_9 rfl (lv_at hl 0 rfl) ?_
    refine gf_X12_81_31 C hP dX12_peg_10 ?_
    refine lv_icmp_ge (tgt := 29) C.1 C.2.1 dX12_peg_13 (by decide) (fun c1 => ?_) (fun c1 => ?_)
    · have hD := b_t c1 hD
      refine lv_iload_n C.1 C.2.1 dX12_peg_29 rfl (lv_at hl 1 rfl) ?_
      refine lv_aload_n C.1 C.2.1 dX12_peg_30 rfl (lv_at hl 0 rfl) ?_
      refine gf_X12_84_31 C hP dX12_peg_31 ?_
      obtain ⟨hz2, hD⟩ := gz_some hD
      refine lv_irem C.1 C.2.1 dX12_peg_34 hz2 ?_
      cases hD
      exact ri_M C hr hP hS dX12_peg_35
    · have hD := b_f c1 hD
      refine lv_iload_n C.1 C.2.1 dX12_peg_16 rfl (lv_at hl 1 rfl) ?_
      refine lv_aload_n C.1 C.2.1 dX12_peg_17 rfl (lv_at hl 0 rfl) ?_
      refine gf_X12_84_31 C hP dX12_peg_18 ?_
      obtain ⟨hz3, hD⟩ := gz_some hD
      refine lv_idiv C.1 C.2.1 dX12_peg_21 hz3 ?_
      refine lv_istore_n (lv' := [(3, .int (x3 / (σ 31 4))), (0, .ref (g.2.2 31)), (4, .int x4)]) C.1 C.2.1 dX12_peg_22 rfl hl (by decide) rfl (fun ls hl => ?_)
      refine lv_iinc (v := x4 + (1 : Int32)) (lv' := [(4, .int (x4 + (1 : Int32))), (3, .int (x3 / (σ 31 4))), (0, .ref (g.2.2 31))]) C.1 C.2.1 dX12_peg_23 hl (k := 2) rfl rfl (by decide) rfl (fun ls hl => ?_)
      refine lv_goto (tgt := 7) C.1 C.2.1 dX12_peg_26 (by decide) ?_
      exact ih (x3 / (σ 31 4)) (x4 + (1 : Int32)) H locs ls (lv_sub hl [2, 1, 0] rfl) hP hS hD
set_option maxHeartbeats 4000000 in
set_option maxRecDepth 100000 in
theorem c_X12_peg (l : Launch) (g : Gx) (sz : Nat) (N : Nat) (σ : St) (x1 : Int32) (x2 : Int32) {h : Int64} {r : Int32} (hD : D_X12_peg N σ x1 x2 = some r) : Met l yX12_peg (Cond.code yX12_peg cX12_peg 5 (some .int) :: tb) rm_X12_peg (PcM g h [.ref (g.2.2 31), .int x1, .int x2] σ sz) (QiM g h (AM g sz) r σ) 0 0 (AM g sz) := by
  refine Met.ofW (cc := cX12_peg) (maxL := 5) (ret := some .int) (by decide) rfl ?_
  intro p e s m args below meth c s₁ B hml hv
  have hv0 := hv
  obtain ⟨rfl, hsz, hP, -⟩ := hv
  subst hsz
  have C : CM g (AM g s.heap.size) p s m _ meth c cX12_peg 5 RX12 := CM.of B hml (fun w h => List.mem_cons_of_mem _ h) rfl hv0
  have hr := B.returns
  have hS : va_S (AM g s.heap.size) s.heap s.heap [] := va_S.rf
  have hl := lv_entry ([.ref (g.2.2 31), .int x1, .int x2]) (n := 5) (Nat.le_of_ble_eq_true rfl)
  rw [lg_entry_eq]
  generalize (lg_sl ([.ref (g.2.2 31), .int x1, .int x2]) ++ List.replicate (5 - (lg_sl ([.ref (g.2.2 31), .int x1, .int x2])).length) Slot.unset).toArray = ls at hl ⊢
  have hl : lv_has ls 5 [(0, .ref (g.2.2 31)), (1, .int x1), (2, .int x2)] := hl
  obtain ⟨H, hH⟩ : ∃ H, H = s.heap := ⟨_, rfl⟩
  have hP : va_P g.1 vwCl (wM g h σ) H := by rw [hH]; exact hP
  have hS : va_S (AM g s.heap.size) s.heap H [] := by rw [hH]; exact hS
  refine wH hH ?_
  obtain ⟨locs, hlo⟩ : ∃ locs : List Loc, locs = [] := ⟨_, rfl⟩
  rw [← hlo] at hS
  refine wL hlo ?_
  unfold D_X12_peg at hD
  refine lv_iload_n C.1 C.2.1 dX12_peg_0 rfl (lv_at hl 1 rfl) ?_
  refine lv_istore_n (lv' := [(3, .int x1), (0, .ref (g.2.2 31)), (1, .int x1), (2, .int x2)]) C.1 C.2.1 dX12_peg_1 rfl hl (by decide) rfl (fun ls hl => ?_)
  refine lv_iload_n C.1 C.2.1 dX12_peg_2 rfl (lv_at hl 3 rfl) ?_
  refine lv_iconst (v := (1 : Int32)) C.1 C.2.1 dX12_peg_3 (by decide) ?_
  refine lv_iadd C.1 C.2.1 dX12_peg_4 ?_
  refine lv_istore (lv' := [(4, .int (x2 + (1 : Int32))), (3, .int x1), (0, .ref (g.2.2 31)), (1, .int x1), (2, .int x2)]) C.1 C.2.1 dX12_peg_5 hl (by decide) rfl (fun ls hl => ?_)
  exact w_L_X12_peg_7 C hr N σ N x1 (x2 + (1 : Int32)) H locs ls (lv_sub hl [2, 1, 0] rfl) hP hS hD
abbrev rm_X12_alike : Room := { frames := 1, cells := 0, slots := 0, locals := 24 }
set_option maxHeartbeats 4000000 in
set_option maxRecDepth 100000 in
theorem w_J_X12_alike_51 (C : CM g A p s m args meth c cX12_alike 8 RX12) (hr : meth.sig.returnType = some .int) (N : Nat) (σ : St) {h : Int64} {r : Int32} (kc5 : Int32 → Int32 → Option Int32) (kc23 : Int32 → Int32 → Int32 → Option Int32) (x1 : Int32) (x2 : Int32) (x3 : Int32) (x4 : Int32) (x6 : Int32) (x7 : Int32) (t0 : Int32) (t1 : Int32) (hk5 : ∀ (x3 : Int32) (x4 : Int32) (H : Heap) (locs : List Loc) (ls : Array Slot), lv_has ls 8 [(0, .ref (g.2.2 31)), (1, .int x1), (2, .int x2), (3, .int x3), (4, .int x4)] → va_P g.1 vwCl (wM g h σ) H → va_S A s.heap H locs → kc5 x3 x4 = some r → W p l e rm_X12_alike s m args below meth c H locs 0 0 (MQ below (QiM g h A r σ) args s 0 0 A) (F0 m 5 ls [])) (hk23 : ∀ (x5 : Int32) (x6 : Int32) (x7 : Int32) (H : Heap) (locs : List Loc) (ls : Array Slot), lv_has ls 8 [(0, .ref (g.2.2 31)), (1, .int x1), (2, .int x2), (3, .int x3), (4, .int x4), (5, .int x5), (6, .int x6), (7, .int x7)] → va_P g.1 vwCl (wM g h σ) H → va_S A s.heap H locs → kc23 x5 x6 x7 = some r → W p l e rm_X12_alike s m args below meth c H locs 0 0 (MQ below (QiM g h A r σ) args s 0 0 A) (F0 m 23 ls [])) : ∀  (H : Heap) (locs : List Loc) (ls : Array Slot), lv_has ls 8 [(0, .ref (g.2.2 31)), (1, .int x1), (2, .int x2), (3, .int x3), (4, .int x4), (6, .int x6), (7, .int x7)] → va_P g.1 vwCl (wM g h σ) H → va_S A s.heap H locs → J_X12_alike_51 N σ kc5 kc23 x1 x2 x3 x4 x6 x7 t0 t1 = some r → W p l e rm_X12_alike s m args below meth c H locs 0 0 (MQ below (QiM g h A r σ) args s 0 0 A) (F0 m 51 ls [.int t1, .int t0]) := by
  intro  H locs ls hl hP hS hD
  unfold J_X12_alike_51 at hD
  refine lv_iadd C.1 C.2.1 dX12_alike_51 ?_
  refine lv_istore (lv' := [(5, .int (t0 + t1)), (0, .ref (g.2.2 31)), (1, .int x1), (2, .int x2), (3, .int x3), (4, .int x4), (6, .int x6), (7, .int x7)]) C.1 C.2.1 dX12_alike_52 hl (by decide) rfl (fun ls hl => ?_)
  refine lv_iload C.1 C.2.1 dX12_alike_54 (lv_at hl 6 rfl) ?_
  refine lv_aload_n C.1 C.2.1 dX12_alike_56 rfl (lv_at hl 1 rfl) ?_
  refine lv_iload_n C.1 C.2.1 dX12_alike_57 rfl (lv_at hl 3 rfl) ?_
  refine lv_iload C.1 C.2.1 dX12_alike_58 (lv_at hl 7 rfl) ?_
  obtain ⟨r6, hd6, hD⟩ := bp_some hD
  refine kVi_M (As := [.int x2, .int x7]) (rest := [.int x6]) (ci := 12) (q0 := 0) C (c_X12_peg l g H.size N σ x2 x7 hd6) kw_X12_99 ⟨rfl, rfl⟩ ⟨Nat.le_of_ble_eq_true rfl, Nat.le_of_ble_eq_true rfl⟩ kv_X12_peg rfl rfl rfl hl.1 (Nat.le_of_ble_eq_true rfl) ⟨Nat.zero_le _, Nat.zero_le _⟩ dX12_alike_60 hP hS rfl (fun H locs hP hS => ?_)
  refine lv_iload C.1 C.2.1 dX12_alike_63 (lv_at hl 5 rfl) ?_
  refine lv_icmp_ne (tgt := 72) C.1 C.2.1 dX12_alike_65 (by decide) (fun c7 => ?_) (fun c7 => ?_)
  · have hD := b_f c7 hD
    refine lv_iconst (v := (0 : Int32)) C.1 C.2.1 dX12_alike_72 (by decide) ?_
    refine lv_iadd C.1 C.2.1 dX12_alike_73 ?_
    refine lv_istore (lv' := [(6, .int (x6 + (0 : Int32))), (5, .int (t0 + t1)), (0, .ref (g.2.2 31)), (1, .int x1), (2, .int x2), (3, .int x3), (4, .int x4), (7, .int x7)]) C.1 C.2.1 dX12_alike_74 hl (by decide) rfl (fun ls hl => ?_)
    refine lv_iinc (v := x7 + (1 : Int32)) (lv' := [(7, .int (x7 + (1 : Int32))), (6, .int (x6 + (0 : Int32))), (5, .int (t0 + t1)), (0, .ref (g.2.2 31)), (1, .int x1), (2, .int x2), (3, .int x3), (4, .int x4)]) C.1 C.2.1 dX12_alike_76 hl (k := 7) rfl rfl (by decide) rfl (fun ls hl => ?_)
    refine lv_goto (tgt := 23) C.1 C.2.1 dX12_alike_79 (by decide) ?_
    exact hk23 (t0 + t1) (x6 + (0 : Int32)) (x7 + (1 : Int32)) H locs ls (lv_sub hl [3, 4, 5, 6, 7, 2, 1, 0] rfl) hP hS hD
  · have hD := b_t c7 hD
    refine lv_iconst (v := (1 : Int32)) C.1 C.2.1 dX12_alike_68 (by decide) ?_
    refine lv_goto (tgt := 73) C.1 C.2.1 dX12_alike_69 (by decide) ?_
    refine lv_iadd C.1 C.2.1 dX12_alike_73 ?_
    refine lv_istore (lv' := [(6, .int (x6 + (1 : Int32))), (5, .int (t0 + t1)), (0, .ref (g.2.2 31)), (1, .int x1), (2, .int x2), (3, .int x3), (4, .int x4), (7, .int x7)]) C.1 C.2.1 dX12_alike_74 hl (by decide) rfl (fun ls hl => ?_)
    refine lv_iinc (v := x7 + (1 : Int32)) (lv' := [(7, .int (x7 + (1 : Int32))), (6, .int (x6 + (1 : Int32))), (5, .int (t0 + t1)), (0, .ref (g.2.2 31)), (1, .int x1), (2, .int x2), (3, .int x3), (4, .int x4)]) C.1 C.2.1 dX12_alike_76 hl (k := 7) rfl rfl (by decide) rfl (fun ls hl => ?_)
    refine lv_goto (tgt := 23) C.1 C.2.1 dX12_alike_79 (by decide) ?_
    exact hk23 (t0 + t1) (x6 + (1 : Int32)) (x7 + (1 : Int32)) H locs ls (lv_sub hl [3, 4, 5, 6, 7, 2, 1, 0] rfl) hP hS hD
set_option maxHeartbeats 4000000 in
set_option maxRecDepth 100000 in
theorem w_L_X12_alike_23 (C : CM g A p s m args meth c cX12_alike 8 RX12) (hr : meth.sig.returnType = some .int) (N : Nat) (σ : St) {h : Int64} {r : Int32} (kc5 : Int32 → Int32 → Option Int32) (x1 : Int32) (x2 : Int32) (x3 : Int32) (x4 : Int32) (hk5 : ∀ (x3 : Int32) (x4 : Int32) (H : Heap) (locs : List Loc) (ls : Array Slot), lv_has ls 8 [(0, .ref (g.2.2 31)), (1, .int x1), (2, .int x2), (3, .int x3), (4, .int x4)] → va_P g.1 vwCl (wM g h σ) H → va_S A s.heap H locs → kc5 x3 x4 = some r → W p l e rm_X12_alike s m args below meth c H locs 0 0 (MQ below (QiM g h A r σ) args s 0 0 A) (F0 m 5 ls [])) : ∀ (n : Nat) (x5 : Int32) (x6 : Int32) (x7 : Int32) (H : Heap) (locs : List Loc) (ls : Array Slot), lv_has ls 8 [(0, .ref (g.2.2 31)), (1, .int x1), (2, .int x2), (3, .int x3), (4, .int x4), (5, .int x5), (6, .int x6), (7, .int x7)] → va_P g.1 vwCl (wM g h σ) H → va_S A s.heap H locs → L_X12_alike_23 N σ kc5 x1 x2 x3 x4 n x5 x6 x7 = some r → W p l e rm_X12_alike s m args below meth c H locs 0 0 (MQ below (QiM g h A r σ) args s 0 0 A) (F0 m 23 ls []) := by
  intro n
  induction n with
  | zero =>
    intro x5 x6 x7 H locs ls hl hP hS hD
    rw [L_X12_alike_23] at hD
    cases hD
  | succ n ih =>
    intro x5 x6 x7 H locs ls hl hP hS hD
    rw [L_X12_alike_23] at hD
    refine lv_iload C.1 C.2.1 dX12_alike_23 (lv_at hl 7 rfl) ?_
    refine lv_aload_n C.1 C.2.1 dX12_alike_25 rfl (lv_at hl 0 rfl) ?_
    refine gf_X12_81_31 C hP dX12_alike_26 ?_
    refine lv_icmp_ge (tgt := 82) C.1 C.2.1 dX12_alike_29 (by decide) (fun c2 => ?_) (fun c2 => ?_)
    · have hD := b_t c2 hD
      refine lv_iload_n C.1 C.2.1 dX12_alike_82 rfl (lv_at hl 3 rfl) ?_
      refine lv_iload C.1 C.2.1 dX12_alike_83 (lv_at hl 5 rfl) ?_
      refine lv_iload C.1 C.2.1 dX12_alike_85 (lv_at hl 6 rfl) ?_
      refine lv_icmp_ge (tgt := 95) C.1 C.2.1 dX12_alike_87 (by decide) (fun c3 => ?_) (fun c3 => ?_)
      · have hD := b_t c3 hD
        refine lv_iload C.1 C.2.1 dX12_alike_95 (lv_at hl 6 rfl) ?_
        refine lv_iadd C.1 C.2.1 dX12_alike_97 ?_
        refine lv_istore_n (lv' := [(3, .int (x3 + x6)), (0, .ref (g.2.2 31)), (1, .int x1), (2, .int x2), (4, .int x4), (5, .int x5), (6, .int x6), (7, .int x7)]) C.1 C.2.1 dX12_alike_98 rfl hl (by decide) rfl (fun ls hl => ?_)
        refine lv_iinc (v := x4 + (1 : Int32)) (lv' := [(4, .int (x4 + (1 : Int32))), (3, .int (x3 + x6)), (0, .ref (g.2.2 31)), (1, .int x1), (2, .int x2), (5, .int x5), (6, .int x6), (7, .int x7)]) C.1 C.2.1 dX12_alike_99 hl (k := 4) rfl rfl (by decide) rfl (fun ls hl => ?_)
        refine lv_goto (tgt := 5) C.1 C.2.1 dX12_alike_102 (by decide) ?_
        exact hk5 (x3 + x6) (x4 + (1 : Int32)) H locs ls (lv_sub hl [2, 3, 4, 1, 0] rfl) hP hS hD
      · have hD := b_f c3 hD
        refine lv_iload C.1 C.2.1 dX12_alike_90 (lv_at hl 5 rfl) ?_
        refine lv_goto (tgt := 97) C.1 C.2.1 dX12_alike_92 (by decide) ?_
        refine lv_iadd C.1 C.2.1 dX12_alike_97 ?_
        refine lv_istore_n (lv' := [(3, .int (x3 + x5)), (0, .ref (g.2.2 31)), (1, .int x1), (2, .int x2), (4, .int x4), (5, .int x5), (6, .int x6), (7, .int x7)]) C.1 C.2.1 dX12_alike_98 rfl hl (by decide) rfl (fun ls hl => ?_)
        refine lv_iinc (v := x4 + (1 : Int32)) (lv' := [(4, .int (x4 + (1 : Int32))), (3, .int (x3 + x5)), (0, .ref (g.2.2 31)), (1, .int x1), (2, .int x2), (5, .int x5), (6, .int x6), (7, .int x7)]) C.1 C.2.1 dX12_alike_99 hl (k := 4) rfl rfl (by decide) rfl (fun ls hl => ?_)
        refine lv_goto (tgt := 5) C.1 C.2.1 dX12_alike_102 (by decide) ?_
        exact hk5 (x3 + x5) (x4 + (1 : Int32)) H locs ls (lv_sub hl [2, 3, 4, 1, 0] rfl) hP hS hD
    · have hD := b_f c2 hD
      refine lv_iload C.1 C.2.1 dX12_alike_32 (lv_at hl 5 rfl) ?_
      refine lv_aload_n C.1 C.2.1 dX12_alike_34 rfl (lv_at hl 0 rfl) ?_
      refine lv_iload_n C.1 C.2.1 dX12_alike_35 rfl (lv_at hl 1 rfl) ?_
      refine lv_iload C.1 C.2.1 dX12_alike_36 (lv_at hl 7 rfl) ?_
      obtain ⟨r4, hd4, hD⟩ := bp_some hD
      refine kVi_M (As := [.int x1, .int x7]) (rest := [.int x5]) (ci := 12) (q0 := 0) C (c_X12_peg l g H.size N σ x1 x7 hd4) kw_X12_99 ⟨rfl, rfl⟩ ⟨Nat.le_of_ble_eq_true rfl, Nat.le_of_ble_eq_true rfl⟩ kv_X12_peg rfl rfl rfl hl.1 (Nat.le_of_ble_eq_true rfl) ⟨Nat.zero_le _, Nat.zero_le _⟩ dX12_alike_38 hP hS rfl (fun H locs hP hS => ?_)
      refine lv_iload C.1 C.2.1 dX12_alike_41 (lv_at hl 4 rfl) ?_
      refine lv_icmp_ne (tgt := 50) C.1 C.2.1 dX12_alike_43 (by decide) (fun c5 => ?_) (fun c5 => ?_)
      · have hD := b_f c5 hD
        refine lv_iconst (v := (0 : Int32)) C.1 C.2.1 dX12_alike_50 (by decide) ?_
        exact w_J_X12_alike_51 C hr N σ kc5 (L_X12_alike_23 N σ kc5 x1 x2 x3 x4 n) x1 x2 x3 x4 x6 x7 x5 (0 : Int32) hk5 ih H locs ls (lv_sub hl [0, 1, 2, 3, 4, 6, 7] rfl) hP hS hD
      · have hD := b_t c5 hD
        refine lv_iconst (v := (1 : Int32)) C.1 C.2.1 dX12_alike_46 (by decide) ?_
        refine lv_goto (tgt := 51) C.1 C.2.1 dX12_alike_47 (by decide) ?_
        exact w_J_X12_alike_51 C hr N σ kc5 (L_X12_alike_23 N σ kc5 x1 x2 x3 x4 n) x1 x2 x3 x4 x6 x7 x5 (1 : Int32) hk5 ih H locs ls (lv_sub hl [0, 1, 2, 3, 4, 6, 7] rfl) hP hS hD
set_option maxHeartbeats 4000000 in
set_option maxRecDepth 100000 in
theorem w_L_X12_alike_5 (C : CM g A p s m args meth c cX12_alike 8 RX12) (hr : meth.sig.returnType = some .int) (N : Nat) (σ : St) {h : Int64} {r : Int32} (x1 : Int32) (x2 : Int32) : ∀ (n : Nat) (x3 : Int32) (x4 : Int32) (H : Heap) (locs : List Loc) (ls : Array Slot), lv_has ls 8 [(0, .ref (g.2.2 31)), (1, .int x1), (2, .int x2), (3, .int x3), (4, .int x4)] → va_P g.1 vwCl (wM g h σ) H → va_S A s.heap H locs → L_X12_alike_5 N σ x1 x2 n x3 x4 = some r → W p l e rm_X12_alike s m args below meth c H locs 0 0 (MQ below (QiM g h A r σ) args s 0 0 A) (F0 m 5 ls []) := by
  intro n
  induction n with
  | zero =>
    intro x3 x4 H locs ls hl hP hS hD
    rw [L_X12_alike_5] at hD
    cases hD
  | succ n ih =>
    intro x3 x4 H locs ls hl hP hS hD
    rw [L_X12_alike_5] at hD
    refine lv_iload C.1 C.2.1 dX12_alike_5 (lv_at hl 4 rfl) ?_
    refine lv_aload_n C.1 C.2.1 dX12_alike_7 rfl (lv_at hl 0 rfl) ?_
    refine gf_X12_84_31 C hP dX12_alike_8 ?_
    refine lv_icmp_ge (tgt := 105) C.1 C.2.1 dX12_alike_11 (by decide) (fun c1 => ?_) (fun c1 => ?_)
    · have hD := b_t c1 hD
      refine lv_iload_n C.1 C.2.1 dX12_alike_105 rfl (lv_at hl 3 rfl) ?_
      cases hD
      exact ri_M C hr hP hS dX12_alike_106
    · have hD := b_f c1 hD
      refine lv_iconst (v := (0 : Int32)) C.1 C.2.1 dX12_alike_14 (by decide) ?_
      refine lv_istore (lv' := [(5, .int (0 : Int32)), (0, .ref (g.2.2 31)), (1, .int x1), (2, .int x2), (3, .int x3), (4, .int x4)]) C.1 C.2.1 dX12_alike_15 hl (by decide) rfl (fun ls hl => ?_)
      refine lv_iconst (v := (0 : Int32)) C.1 C.2.1 dX12_alike_17 (by decide) ?_
      refine lv_istore (lv' := [(6, .int (0 : Int32)), (5, .int (0 : Int32)), (0, .ref (g.2.2 31)), (1, .int x1), (2, .int x2), (3, .int x3), (4, .int x4)]) C.1 C.2.1 dX12_alike_18 hl (by decide) rfl (fun ls hl => ?_)
      refine lv_iconst (v := (0 : Int32)) C.1 C.2.1 dX12_alike_20 (by decide) ?_
      refine lv_istore (lv' := [(7, .int (0 : Int32)), (6, .int (0 : Int32)), (5, .int (0 : Int32)), (0, .ref (g.2.2 31)), (1, .int x1), (2, .int x2), (3, .int x3), (4, .int x4)]) C.1 C.2.1 dX12_alike_21 hl (by decide) rfl (fun ls hl => ?_)
      exact w_L_X12_alike_23 C hr N σ (L_X12_alike_5 N σ x1 x2 n) x1 x2 x3 x4 ih N (0 : Int32) (0 : Int32) (0 : Int32) H locs ls (lv_sub hl [3, 4, 5, 6, 7, 2, 1, 0] rfl) hP hS hD
set_option maxHeartbeats 4000000 in
set_option maxRecDepth 100000 in
theorem c_X12_alike (l : Launch) (g : Gx) (sz : Nat) (N : Nat) (σ : St) (x1 : Int32) (x2 : Int32) {h : Int64} {r : Int32} (hD : D_X12_alike N σ x1 x2 = some r) : Met l yX12_alike (Cond.code yX12_alike cX12_alike 8 (some .int) :: tb) rm_X12_alike (PcM g h [.ref (g.2.2 31), .int x1, .int x2] σ sz) (QiM g h (AM g sz) r σ) 0 0 (AM g sz) := by
  refine Met.ofW (cc := cX12_alike) (maxL := 8) (ret := some .int) (by decide) rfl ?_
  intro p e s m args below meth c s₁ B hml hv
  have hv0 := hv
  obtain ⟨rfl, hsz, hP, -⟩ := hv
  subst hsz
  have C : CM g (AM g s.heap.size) p s m _ meth c cX12_alike 8 RX12 := CM.of B hml (fun w h => List.mem_cons_of_mem _ h) rfl hv0
  have hr := B.returns
  have hS : va_S (AM g s.heap.size) s.heap s.heap [] := va_S.rf
  have hl := lv_entry ([.ref (g.2.2 31), .int x1, .int x2]) (n := 8) (Nat.le_of_ble_eq_true rfl)
  rw [lg_entry_eq]
  generalize (lg_sl ([.ref (g.2.2 31), .int x1, .int x2]) ++ List.replicate (8 - (lg_sl ([.ref (g.2.2 31), .int x1, .int x2])).length) Slot.unset).toArray = ls at hl ⊢
  have hl : lv_has ls 8 [(0, .ref (g.2.2 31)), (1, .int x1), (2, .int x2)] := hl
  obtain ⟨H, hH⟩ : ∃ H, H = s.heap := ⟨_, rfl⟩
  have hP : va_P g.1 vwCl (wM g h σ) H := by rw [hH]; exact hP
  have hS : va_S (AM g s.heap.size) s.heap H [] := by rw [hH]; exact hS
  refine wH hH ?_
  obtain ⟨locs, hlo⟩ : ∃ locs : List Loc, locs = [] := ⟨_, rfl⟩
  rw [← hlo] at hS
  refine wL hlo ?_
  unfold D_X12_alike at hD
  refine lv_iconst (v := (0 : Int32)) C.1 C.2.1 dX12_alike_0 (by decide) ?_
  refine lv_istore_n (lv' := [(3, .int (0 : Int32)), (0, .ref (g.2.2 31)), (1, .int x1), (2, .int x2)]) C.1 C.2.1 dX12_alike_1 rfl hl (by decide) rfl (fun ls hl => ?_)
  refine lv_iconst (v := (0 : Int32)) C.1 C.2.1 dX12_alike_2 (by decide) ?_
  refine lv_istore (lv' := [(4, .int (0 : Int32)), (3, .int (0 : Int32)), (0, .ref (g.2.2 31)), (1, .int x1), (2, .int x2)]) C.1 C.2.1 dX12_alike_3 hl (by decide) rfl (fun ls hl => ?_)
  exact w_L_X12_alike_5 C hr N σ x1 x2 N (0 : Int32) (0 : Int32) H locs ls (lv_sub hl [2, 3, 4, 1, 0] rfl) hP hS hD
abbrev rm_X12_apartMany : Room := { frames := 0, cells := 0, slots := 0, locals := 0 }
set_option maxHeartbeats 4000000 in
set_option maxRecDepth 100000 in
theorem w_L_X12_apartMany_4 (C : CM g A p s m args meth c cX12_apartMany 3 RX12) (hr : meth.sig.returnType = some .int) (N : Nat) (σ : St) {h : Int64} {r : Int32} : ∀ (n : Nat) (x1 : Int32) (x2 : Int32) (H : Heap) (locs : List Loc) (ls : Array Slot), lv_has ls 3 [(0, .ref (g.2.2 31)), (1, .int x1), (2, .int x2)] → va_P g.1 vwCl (wM g h σ) H → va_S A s.heap H locs → L_X12_apartMany_4 N σ n x1 x2 = some r → W p l e rm_X12_apartMany s m args below meth c H locs 0 0 (MQ below (QiM g h A r σ) args s 0 0 A) (F0 m 4 ls []) := by
  intro n
  induction n with
  | zero =>
    intro x1 x2 H locs ls hl hP hS hD
    rw [L_X12_apartMany_4] at hD
    cases hD
  | succ n ih =>
    intro x1 x2 H locs ls hl hP hS hD
    rw [L_X12_apartMany_4] at hD
    refine lv_iload_n C.1 C.2.1 dX12_apartMany_4 rfl (lv_at hl 2 rfl) ?_
    refine lv_sipush (v := (4096 : Int32)) C.1 C.2.1 dX12_apartMany_5 (by decide) ?_
    refine lv_icmp_ge (tgt := 26) C.1 C.2.1 dX12_apartMany_8 (by decide) (fun c1 => ?_) (fun c1 => ?_)
    · have hD := b_t c1 hD
      refine lv_iload_n C.1 C.2.1 dX12_apartMany_26 rfl (lv_at hl 1 rfl) ?_
      cases hD
      exact ri_M C hr hP hS dX12_apartMany_27
    · have hD := b_f c1 hD
      refine lv_iload_n C.1 C.2.1 dX12_apartMany_11 rfl (lv_at hl 1 rfl) ?_
      refine lv_aload_n C.1 C.2.1 dX12_apartMany_12 rfl (lv_at hl 0 rfl) ?_
      refine gf_X12_28_31 C hP dX12_apartMany_13 ?_
      refine lv_iload_n C.1 C.2.1 dX12_apartMany_16 rfl (lv_at hl 2 rfl) ?_
      obtain ⟨hi2, hD⟩ := gi_some hD
      refine iaM C hP 7 rfl hi2 dX12_apartMany_17 ?_
      refine lv_iadd C.1 C.2.1 dX12_apartMany_18 ?_
      refine lv_istore_n (lv' := [(1, .int (x1 + (σ 38 x2.toNatClampNeg))), (0, .ref (g.2.2 31)), (2, .int x2)]) C.1 C.2.1 dX12_apartMany_19 rfl hl (by decide) rfl (fun ls hl => ?_)
      refine lv_iinc (v := x2 + (1 : Int32)) (lv' := [(2, .int (x2 + (1 : Int32))), (1, .int (x1 + (σ 38 x2.toNatClampNeg))), (0, .ref (g.2.2 31))]) C.1 C.2.1 dX12_apartMany_20 hl (k := 2) rfl rfl (by decide) rfl (fun ls hl => ?_)
      refine lv_goto (tgt := 4) C.1 C.2.1 dX12_apartMany_23 (by decide) ?_
      exact ih (x1 + (σ 38 x2.toNatClampNeg)) (x2 + (1 : Int32)) H locs ls (lv_sub hl [2, 1, 0] rfl) hP hS hD
set_option maxHeartbeats 4000000 in
set_option maxRecDepth 100000 in
theorem c_X12_apartMany (l : Launch) (g : Gx) (sz : Nat) (N : Nat) (σ : St) {h : Int64} {r : Int32} (hD : D_X12_apartMany N σ = some r) : Met l yX12_apartMany (Cond.code yX12_apartMany cX12_apartMany 3 (some .int) :: tb) rm_X12_apartMany (PcM g h [.ref (g.2.2 31)] σ sz) (QiM g h (AM g sz) r σ) 0 0 (AM g sz) := by
  refine Met.ofW (cc := cX12_apartMany) (maxL := 3) (ret := some .int) (by decide) rfl ?_
  intro p e s m args below meth c s₁ B hml hv
  have hv0 := hv
  obtain ⟨rfl, hsz, hP, -⟩ := hv
  subst hsz
  have C : CM g (AM g s.heap.size) p s m _ meth c cX12_apartMany 3 RX12 := CM.of B hml (fun w h => List.mem_cons_of_mem _ h) rfl hv0
  have hr := B.returns
  have hS : va_S (AM g s.heap.size) s.heap s.heap [] := va_S.rf
  have hl := lv_entry ([.ref (g.2.2 31)]) (n := 3) (Nat.le_of_ble_eq_true rfl)
  rw [lg_entry_eq]
  generalize (lg_sl ([.ref (g.2.2 31)]) ++ List.replicate (3 - (lg_sl ([.ref (g.2.2 31)])).length) Slot.unset).toArray = ls at hl ⊢
  have hl : lv_has ls 3 [(0, .ref (g.2.2 31))] := hl
  obtain ⟨H, hH⟩ : ∃ H, H = s.heap := ⟨_, rfl⟩
  have hP : va_P g.1 vwCl (wM g h σ) H := by rw [hH]; exact hP
  have hS : va_S (AM g s.heap.size) s.heap H [] := by rw [hH]; exact hS
  refine wH hH ?_
  obtain ⟨locs, hlo⟩ : ∃ locs : List Loc, locs = [] := ⟨_, rfl⟩
  rw [← hlo] at hS
  refine wL hlo ?_
  unfold D_X12_apartMany at hD
  refine lv_iconst (v := (0 : Int32)) C.1 C.2.1 dX12_apartMany_0 (by decide) ?_
  refine lv_istore_n (lv' := [(1, .int (0 : Int32)), (0, .ref (g.2.2 31))]) C.1 C.2.1 dX12_apartMany_1 rfl hl (by decide) rfl (fun ls hl => ?_)
  refine lv_iconst (v := (0 : Int32)) C.1 C.2.1 dX12_apartMany_2 (by decide) ?_
  refine lv_istore_n (lv' := [(2, .int (0 : Int32)), (1, .int (0 : Int32)), (0, .ref (g.2.2 31))]) C.1 C.2.1 dX12_apartMany_3 rfl hl (by decide) rfl (fun ls hl => ?_)
  exact w_L_X12_apartMany_4 C hr N σ N (0 : Int32) (0 : Int32) H locs ls (lv_sub hl [2, 1, 0] rfl) hP hS hD
abbrev rm_X12_in : Room := { frames := 0, cells := 0, slots := 0, locals := 0 }
set_option maxHeartbeats 4000000 in
set_option maxRecDepth 100000 in
theorem c_X12_in (l : Launch) (g : Gx) (sz : Nat) (σ : St) (y0 : Int64) (y2 : Int64) (y4 : Int64) {h : Int64} {r : Int32} (hD : D_X12_in y0 y2 y4 = some r) : Met l yX12_in (Cond.code yX12_in cX12_in 6 (some .boolean) :: tb) rm_X12_in (PcM g h [.long y0, .long y2, .long y4] σ sz) (QiM g h (AM g sz) r σ) 0 0 (AM g sz) := by
  refine Met.ofW (cc := cX12_in) (maxL := 6) (ret := some .boolean) (by decide) rfl ?_
  intro p e s m args below meth c s₁ B hml hv
  have hv0 := hv
  obtain ⟨rfl, hsz, hP, -⟩ := hv
  subst hsz
  have C : CM g (AM g s.heap.size) p s m _ meth c cX12_in 6 RX12 := CM.of B hml (fun w h => List.mem_cons_of_mem _ h) rfl hv0
  have hr := B.returns
  have hS : va_S (AM g s.heap.size) s.heap s.heap [] := va_S.rf
  have hl := lv_entry ([.long y0, .long y2, .long y4]) (n := 6) (Nat.le_of_ble_eq_true rfl)
  rw [lg_entry_eq]
  generalize (lg_sl ([.long y0, .long y2, .long y4]) ++ List.replicate (6 - (lg_sl ([.long y0, .long y2, .long y4])).length) Slot.unset).toArray = ls at hl ⊢
  have hl : lv_has ls 6 [(0, .long y0), (2, .long y2), (4, .long y4)] := hl
  obtain ⟨H, hH⟩ : ∃ H, H = s.heap := ⟨_, rfl⟩
  have hP : va_P g.1 vwCl (wM g h σ) H := by rw [hH]; exact hP
  have hS : va_S (AM g s.heap.size) s.heap H [] := by rw [hH]; exact hS
  refine wH hH ?_
  obtain ⟨locs, hlo⟩ : ∃ locs : List Loc, locs = [] := ⟨_, rfl⟩
  rw [← hlo] at hS
  refine wL hlo ?_
  unfold D_X12_in at hD
  refine lv_lload_n C.1 C.2.1 dX12_in_0 rfl (lv_at hl 0 rfl) ?_
  refine lv_lload_n C.1 C.2.1 dX12_in_1 rfl (lv_at hl 1 rfl) ?_
  refine W.lcmp C.1 C.2.1 dX12_in_2 ?_
  refine lv_if_lt (tgt := 17) C.1 C.2.1 dX12_in_3 (by decide) (fun c1 => ?_) (fun c1 => ?_)
  · have hD := b_t c1 hD
    refine lv_iconst (v := (0 : Int32)) C.1 C.2.1 dX12_in_17 (by decide) ?_
    cases hD
    exact rz_M C hr (Or.inl rfl) hP hS dX12_in_18
  · have hD := b_f c1 hD
    refine lv_lload_n C.1 C.2.1 dX12_in_6 rfl (lv_at hl 0 rfl) ?_
    refine lv_lload C.1 C.2.1 dX12_in_7 (lv_at hl 2 rfl) ?_
    refine W.lcmp C.1 C.2.1 dX12_in_9 ?_
    refine lv_if_gt (tgt := 17) C.1 C.2.1 dX12_in_10 (by decide) (fun c2 => ?_) (fun c2 => ?_)
    · have hD := b_t c2 hD
      refine lv_iconst (v := (0 : Int32)) C.1 C.2.1 dX12_in_17 (by decide) ?_
      cases hD
      exact rz_M C hr (Or.inl rfl) hP hS dX12_in_18
    · have hD := b_f c2 hD
      refine lv_iconst (v := (1 : Int32)) C.1 C.2.1 dX12_in_13 (by decide) ?_
      refine lv_goto (tgt := 18) C.1 C.2.1 dX12_in_14 (by decide) ?_
      cases hD
      exact rz_M C hr (Or.inr rfl) hP hS dX12_in_18
abbrev rm_X12_isJudge : Room := { frames := 1, cells := 0, slots := 0, locals := 25 }
set_option maxHeartbeats 4000000 in
set_option maxRecDepth 100000 in
theorem c_X12_isJudge (l : Launch) (g : Gx) (sz : Nat) (σ : St) (x1 : Int32) {h : Int64} {r : Int32} (hD : D_X12_isJudge σ x1 = some r) : Met l yX12_isJudge (Cond.code yX12_isJudge cX12_isJudge 2 (some .boolean) :: tb) rm_X12_isJudge (PcM g h [.ref (g.2.2 31), .int x1] σ sz) (QiM g h (AM g sz) r σ) 0 0 (AM g sz) := by
  refine Met.ofW (cc := cX12_isJudge) (maxL := 2) (ret := some .boolean) (by decide) rfl ?_
  intro p e s m args below meth c s₁ B hml hv
  have hv0 := hv
  obtain ⟨rfl, hsz, hP, -⟩ := hv
  subst hsz
  have C : CM g (AM g s.heap.size) p s m _ meth c cX12_isJudge 2 RX12 := CM.of B hml (fun w h => List.mem_cons_of_mem _ h) rfl hv0
  have hr := B.returns
  have hS : va_S (AM g s.heap.size) s.heap s.heap [] := va_S.rf
  have hl := lv_entry ([.ref (g.2.2 31), .int x1]) (n := 2) (Nat.le_of_ble_eq_true rfl)
  rw [lg_entry_eq]
  generalize (lg_sl ([.ref (g.2.2 31), .int x1]) ++ List.replicate (2 - (lg_sl ([.ref (g.2.2 31), .int x1])).length) Slot.unset).toArray = ls at hl ⊢
  have hl : lv_has ls 2 [(0, .ref (g.2.2 31)), (1, .int x1)] := hl
  obtain ⟨H, hH⟩ : ∃ H, H = s.heap := ⟨_, rfl⟩
  have hP : va_P g.1 vwCl (wM g h σ) H := by rw [hH]; exact hP
  have hS : va_S (AM g s.heap.size) s.heap H [] := by rw [hH]; exact hS
  refine wH hH ?_
  obtain ⟨locs, hlo⟩ : ∃ locs : List Loc, locs = [] := ⟨_, rfl⟩
  rw [← hlo] at hS
  refine wL hlo ?_
  unfold D_X12_isJudge at hD
  refine lv_iload_n C.1 C.2.1 dX12_isJudge_0 rfl (lv_at hl 1 rfl) ?_
  refine lv_i2l C.1 C.2.1 dX12_isJudge_1 rfl ?_
  refine lv_lconst (v := (0 : Int64)) C.1 C.2.1 dX12_isJudge_2 (by decide) ?_
  refine lv_aload_n C.1 C.2.1 dX12_isJudge_3 rfl (lv_at hl 0 rfl) ?_
  refine gf_X12_87_31 C hP dX12_isJudge_4 ?_
  refine lv_iconst (v := (1 : Int32)) C.1 C.2.1 dX12_isJudge_7 (by decide) ?_
  refine lv_isub C.1 C.2.1 dX12_isJudge_8 ?_
  refine lv_i2l C.1 C.2.1 dX12_isJudge_9 rfl ?_
  obtain ⟨r1, hd1, hD⟩ := bp_some hD
  refine kSi_M (As := [.long x1.toInt64, .long (0 : Int64), .long (((σ 31 6) - (1 : Int32)).toInt64)]) (rest := []) C (c_X12_in l g H.size σ x1.toInt64 (0 : Int64) (((σ 31 6) - (1 : Int32)).toInt64) hd1) kw_X12_46 ⟨rfl, rfl⟩ ⟨Nat.le_of_ble_eq_true rfl, Nat.le_of_ble_eq_true rfl⟩ ks_X12_in rfl hl.1 (Nat.le_of_ble_eq_true rfl) ⟨Nat.zero_le _, Nat.zero_le _⟩ dX12_isJudge_10 hP hS rfl (fun H locs hP hS => ?_)
  obtain ⟨hb2, hD⟩ := gb_some hD
  cases hD
  exact rz_M C hr hb2 hP hS dX12_isJudge_13
abbrev rm_X12_as : Room := { frames := 2, cells := 0, slots := 0, locals := 46 }
set_option maxHeartbeats 4000000 in
set_option maxRecDepth 100000 in
theorem w_J_X12_as_60 (C : CM g A p s m args meth c cX12_as 4 RX12) (hr : meth.sig.returnType = some .int) (σ : St) {h : Int64} {r : Int32} (x1 : Int32) (t0 : Int32) : ∀  (H : Heap) (locs : List Loc) (ls : Array Slot), lv_has ls 4 [(1, .int x1)] → va_P g.1 vwCl (wM g h σ) H → va_S A s.heap H locs → J_X12_as_60 σ x1 t0 = some r → W p l e rm_X12_as s m args below meth c H locs 0 0 (MQ below (QiM g h A r σ) args s 0 0 A) (F0 m 60 ls [.int t0]) := by
  intro  H locs ls hl hP hS hD
  unfold J_X12_as_60 at hD
  refine lv_istore_n (lv' := [(3, .int t0), (1, .int x1)]) C.1 C.2.1 dX12_as_60 rfl hl (by decide) rfl (fun ls hl => ?_)
  refine lv_iload_n C.1 C.2.1 dX12_as_61 rfl (lv_at hl 0 rfl) ?_
  refine lv_if_eq (tgt := 69) C.1 C.2.1 dX12_as_62 (by decide) (fun c6 => ?_) (fun c6 => ?_)
  · have hD := b_t c6 hD
    refine lv_iconst (v := (-1 : Int32)) C.1 C.2.1 dX12_as_69 (by decide) ?_
    cases hD
    exact ri_M C hr hP hS dX12_as_70
  · have hD := b_f c6 hD
    refine lv_iload_n C.1 C.2.1 dX12_as_65 rfl (lv_at hl 1 rfl) ?_
    refine lv_goto (tgt := 70) C.1 C.2.1 dX12_as_66 (by decide) ?_
    cases hD
    exact ri_M C hr hP hS dX12_as_70
set_option maxHeartbeats 4000000 in
set_option maxRecDepth 100000 in
theorem w_J_X12_as_55 (C : CM g A p s m args meth c cX12_as 4 RX12) (hr : meth.sig.returnType = some .int) (σ : St) {h : Int64} {r : Int32} (x1 : Int32) : ∀  (H : Heap) (locs : List Loc) (ls : Array Slot), lv_has ls 4 [(1, .int x1)] → va_P g.1 vwCl (wM g h σ) H → va_S A s.heap H locs → J_X12_as_55 σ x1 = some r → W p l e rm_X12_as s m args below meth c H locs 0 0 (MQ below (QiM g h A r σ) args s 0 0 A) (F0 m 55 ls []) := by
  intro  H locs ls hl hP hS hD
  unfold J_X12_as_55 at hD
  refine lv_iconst (v := (1 : Int32)) C.1 C.2.1 dX12_as_55 (by decide) ?_
  refine lv_goto (tgt := 60) C.1 C.2.1 dX12_as_56 (by decide) ?_
  exact w_J_X12_as_60 C hr σ x1 (1 : Int32) H locs ls (lv_sub hl [0] rfl) hP hS hD
set_option maxHeartbeats 4000000 in
set_option maxRecDepth 100000 in
theorem w_J_X12_as_59 (C : CM g A p s m args meth c cX12_as 4 RX12) (hr : meth.sig.returnType = some .int) (σ : St) {h : Int64} {r : Int32} (x1 : Int32) : ∀  (H : Heap) (locs : List Loc) (ls : Array Slot), lv_has ls 4 [(1, .int x1)] → va_P g.1 vwCl (wM g h σ) H → va_S A s.heap H locs → J_X12_as_59 σ x1 = some r → W p l e rm_X12_as s m args below meth c H locs 0 0 (MQ below (QiM g h A r σ) args s 0 0 A) (F0 m 59 ls []) := by
  intro  H locs ls hl hP hS hD
  unfold J_X12_as_59 at hD
  refine lv_iconst (v := (0 : Int32)) C.1 C.2.1 dX12_as_59 (by decide) ?_
  exact w_J_X12_as_60 C hr σ x1 (0 : Int32) H locs ls (lv_sub hl [0] rfl) hP hS hD
set_option maxHeartbeats 4000000 in
set_option maxRecDepth 100000 in
theorem c_X12_as (l : Launch) (g : Gx) (sz : Nat) (σ : St) (x1 : Int32) (x2 : Int32) {h : Int64} {r : Int32} (hD : D_X12_as σ x1 x2 = some r) : Met l yX12_as (Cond.code yX12_as cX12_as 4 (some .int) :: tb) rm_X12_as (PcM g h [.ref (g.2.2 31), .int x1, .int x2] σ sz) (QiM g h (AM g sz) r σ) 0 0 (AM g sz) := by
  refine Met.ofW (cc := cX12_as) (maxL := 4) (ret := some .int) (by decide) rfl ?_
  intro p e s m args below meth c s₁ B hml hv
  have hv0 := hv
  obtain ⟨rfl, hsz, hP, -⟩ := hv
  subst hsz
  have C : CM g (AM g s.heap.size) p s m _ meth c cX12_as 4 RX12 := CM.of B hml (fun w h => List.mem_cons_of_mem _ h) rfl hv0
  have hr := B.returns
  have hS : va_S (AM g s.heap.size) s.heap s.heap [] := va_S.rf
  have hl := lv_entry ([.ref (g.2.2 31), .int x1, .int x2]) (n := 4) (Nat.le_of_ble_eq_true rfl)
  rw [lg_entry_eq]
  generalize (lg_sl ([.ref (g.2.2 31), .int x1, .int x2]) ++ List.replicate (4 - (lg_sl ([.ref (g.2.2 31), .int x1, .int x2])).length) Slot.unset).toArray = ls at hl ⊢
  have hl : lv_has ls 4 [(0, .ref (g.2.2 31)), (1, .int x1), (2, .int x2)] := hl
  obtain ⟨H, hH⟩ : ∃ H, H = s.heap := ⟨_, rfl⟩
  have hP : va_P g.1 vwCl (wM g h σ) H := by rw [hH]; exact hP
  have hS : va_S (AM g s.heap.size) s.heap H [] := by rw [hH]; exact hS
  refine wH hH ?_
  obtain ⟨locs, hlo⟩ : ∃ locs : List Loc, locs = [] := ⟨_, rfl⟩
  rw [← hlo] at hS
  refine wL hlo ?_
  unfold D_X12_as at hD
  refine lv_aload_n C.1 C.2.1 dX12_as_0 rfl (lv_at hl 0 rfl) ?_
  refine lv_iload_n C.1 C.2.1 dX12_as_1 rfl (lv_at hl 1 rfl) ?_
  obtain ⟨r1, hd1, hD⟩ := bp_some hD
  refine kVi_M (As := [.int x1]) (rest := []) (ci := 12) (q0 := 0) C (c_X12_isJudge l g H.size σ x1 hd1) kw_X12_110 ⟨rfl, rfl⟩ ⟨Nat.le_of_ble_eq_true rfl, Nat.le_of_ble_eq_true rfl⟩ kv_X12_isJudge rfl rfl rfl hl.1 (Nat.le_of_ble_eq_true rfl) ⟨Nat.zero_le _, Nat.zero_le _⟩ dX12_as_2 hP hS rfl (fun H locs hP hS => ?_)
  refine lv_if_ne (tgt := 11) C.1 C.2.1 dX12_as_5 (by decide) (fun c2 => ?_) (fun c2 => ?_)
  · have hD := b_f c2 hD
    refine lv_iload_n C.1 C.2.1 dX12_as_11 rfl (lv_at hl 2 rfl) ?_
    refine lv_i2l C.1 C.2.1 dX12_as_12 rfl ?_
    refine lv_lconst (v := (0 : Int64)) C.1 C.2.1 dX12_as_13 (by decide) ?_
    refine lv_ldc2 (v := (4 : Int64)) (own := RX12) C.1 C.2.1 C.2.2.2.1 (C.2.2.2.2.1 (.constantLong RX12 154 (4 : Int64)) (tb_in 994 (by decide +kernel) (by decide +kernel))) dX12_as_14 ?_
    obtain ⟨r3, hd3, hD⟩ := bp_some hD
    refine kSi_M (As := [.long x2.toInt64, .long (0 : Int64), .long (4 : Int64)]) (rest := []) C (c_X12_in l g H.size σ x2.toInt64 (0 : Int64) (4 : Int64) hd3) kw_X12_46 ⟨rfl, rfl⟩ ⟨Nat.le_of_ble_eq_true rfl, Nat.le_of_ble_eq_true rfl⟩ ks_X12_in rfl hl.1 (Nat.le_of_ble_eq_true rfl) ⟨Nat.zero_le _, Nat.zero_le _⟩ dX12_as_17 hP hS rfl (fun H locs hP hS => ?_)
    refine lv_if_ne (tgt := 26) C.1 C.2.1 dX12_as_20 (by decide) (fun c4 => ?_) (fun c4 => ?_)
    · have hD := b_f c4 hD
      refine lv_iload_n C.1 C.2.1 dX12_as_26 rfl (lv_at hl 2 rfl) ?_
      refine lv_if_eq (tgt := 55) C.1 C.2.1 dX12_as_27 (by decide) (fun c5 => ?_) (fun c5 => ?_)
      · have hD := b_t c5 hD
        exact w_J_X12_as_55 C hr σ x1 H locs ls (lv_sub hl [1] rfl) hP hS hD
      · have hD := b_f c5 hD
        refine lv_iload_n C.1 C.2.1 dX12_as_30 rfl (lv_at hl 2 rfl) ?_
        refine lv_aload_n C.1 C.2.1 dX12_as_31 rfl (lv_at hl 0 rfl) ?_
        refine gf_X12_13_31 C hP dX12_as_32 ?_
        refine lv_iload_n C.1 C.2.1 dX12_as_35 rfl (lv_at hl 1 rfl) ?_
        obtain ⟨hi7, hD⟩ := gi_some hD
        refine iaM C hP 2 rfl hi7 dX12_as_36 ?_
        refine lv_icmp_eq (tgt := 55) C.1 C.2.1 dX12_as_37 (by decide) (fun c8 => ?_) (fun c8 => ?_)
        · have hD := b_t c8 hD
          exact w_J_X12_as_55 C hr σ x1 H locs ls (lv_sub hl [1] rfl) hP hS hD
        · have hD := b_f c8 hD
          refine lv_iload_n C.1 C.2.1 dX12_as_40 rfl (lv_at hl 2 rfl) ?_
          refine lv_iconst (v := (1 : Int32)) C.1 C.2.1 dX12_as_41 (by decide) ?_
          refine lv_icmp_ne (tgt := 59) C.1 C.2.1 dX12_as_42 (by decide) (fun c9 => ?_) (fun c9 => ?_)
          · have hD := b_f c9 hD
            exact w_J_X12_as_59 C hr σ x1 H locs ls (lv_sub hl [1] rfl) hP hS hD
          · have hD := b_t c9 hD
            refine lv_aload_n C.1 C.2.1 dX12_as_45 rfl (lv_at hl 0 rfl) ?_
            refine gf_X12_13_31 C hP dX12_as_46 ?_
            refine lv_iload_n C.1 C.2.1 dX12_as_49 rfl (lv_at hl 1 rfl) ?_
            obtain ⟨hi10, hD⟩ := gi_some hD
            refine iaM C hP 2 rfl hi10 dX12_as_50 ?_
            refine lv_iconst (v := (4 : Int32)) C.1 C.2.1 dX12_as_51 (by decide) ?_
            refine lv_icmp_ne (tgt := 59) C.1 C.2.1 dX12_as_52 (by decide) (fun c11 => ?_) (fun c11 => ?_)
            · have hD := b_f c11 hD
              exact w_J_X12_as_59 C hr σ x1 H locs ls (lv_sub hl [1] rfl) hP hS hD
            · have hD := b_t c11 hD
              exact w_J_X12_as_55 C hr σ x1 H locs ls (lv_sub hl [1] rfl) hP hS hD
    · have hD := b_t c4 hD
      refine lv_bipush (v := (-102 : Int32)) C.1 C.2.1 dX12_as_23 (by decide) ?_
      cases hD
      exact ri_M C hr hP hS dX12_as_25
  · have hD := b_t c2 hD
    refine lv_bipush (v := (-101 : Int32)) C.1 C.2.1 dX12_as_8 (by decide) ?_
    cases hD
    exact ri_M C hr hP hS dX12_as_10
abbrev rm_X12_right : Room := { frames := 1, cells := 0, slots := 0, locals := 24 }
set_option maxHeartbeats 4000000 in
set_option maxRecDepth 100000 in
theorem w_J_X12_right_37 (C : CM g A p s m args meth c cX12_right 6 RX12) (hr : meth.sig.returnType = some .int) (N : Nat) (σ : St) {h : Int64} {r : Int32} (kc6 : Int32 → Int32 → Option Int32) (x1 : Int32) (x2 : Int32) (x3 : Int32) (x5 : Int32) (t0 : Int32) (t2 : Int32) (t3 : Int32) (hk6 : ∀ (x4 : Int32) (x5 : Int32) (H : Heap) (locs : List Loc) (ls : Array Slot), lv_has ls 6 [(0, .ref (g.2.2 31)), (1, .int x1), (2, .int x2), (3, .int x3), (4, .int x4), (5, .int x5)] → va_P g.1 vwCl (wM g h σ) H → va_S A s.heap H locs → kc6 x4 x5 = some r → W p l e rm_X12_right s m args below meth c H locs 0 0 (MQ below (QiM g h A r σ) args s 0 0 A) (F0 m 6 ls [])) : ∀  (H : Heap) (locs : List Loc) (ls : Array Slot), lv_has ls 6 [(0, .ref (g.2.2 31)), (1, .int x1), (2, .int x2), (3, .int x3), (5, .int x5)] → va_P g.1 vwCl (wM g h σ) H → va_S A s.heap H locs → J_X12_right_37 N σ kc6 x1 x2 x3 x5 t0 t2 t3 = some r → W p l e rm_X12_right s m args below meth c H locs 0 0 (MQ below (QiM g h A r σ) args s 0 0 A) (F0 m 37 ls [.int t3, .int t2, .ref (g.2.2 31), .int t0]) := by
  intro  H locs ls hl hP hS hD
  unfold J_X12_right_37 at hD
  obtain ⟨r3, hd3, hD⟩ := bp_some hD
  refine kVi_M (As := [.int t2, .int t3]) (rest := [.int t0]) (ci := 12) (q0 := 0) C (c_X12_peg l g H.size N σ t2 t3 hd3) kw_X12_99 ⟨rfl, rfl⟩ ⟨Nat.le_of_ble_eq_true rfl, Nat.le_of_ble_eq_true rfl⟩ kv_X12_peg rfl rfl rfl hl.1 (Nat.le_of_ble_eq_true rfl) ⟨Nat.zero_le _, Nat.zero_le _⟩ dX12_right_37 hP hS rfl (fun H locs hP hS => ?_)
  refine lv_aload_n C.1 C.2.1 dX12_right_40 rfl (lv_at hl 0 rfl) ?_
  refine lv_iload_n C.1 C.2.1 dX12_right_41 rfl (lv_at hl 2 rfl) ?_
  refine lv_iload C.1 C.2.1 dX12_right_42 (lv_at hl 4 rfl) ?_
  obtain ⟨r4, hd4, hD⟩ := bp_some hD
  refine kVi_M (As := [.int x2, .int x5]) (rest := [.int r3, .int t0]) (ci := 12) (q0 := 0) C (c_X12_peg l g H.size N σ x2 x5 hd4) kw_X12_99 ⟨rfl, rfl⟩ ⟨Nat.le_of_ble_eq_true rfl, Nat.le_of_ble_eq_true rfl⟩ kv_X12_peg rfl rfl rfl hl.1 (Nat.le_of_ble_eq_true rfl) ⟨Nat.zero_le _, Nat.zero_le _⟩ dX12_right_44 hP hS rfl (fun H locs hP hS => ?_)
  refine lv_icmp_ne (tgt := 54) C.1 C.2.1 dX12_right_47 (by decide) (fun c5 => ?_) (fun c5 => ?_)
  · have hD := b_f c5 hD
    refine lv_iconst (v := (0 : Int32)) C.1 C.2.1 dX12_right_54 (by decide) ?_
    refine lv_iadd C.1 C.2.1 dX12_right_55 ?_
    refine lv_istore (lv' := [(4, .int (t0 + (0 : Int32))), (0, .ref (g.2.2 31)), (1, .int x1), (2, .int x2), (3, .int x3), (5, .int x5)]) C.1 C.2.1 dX12_right_56 hl (by decide) rfl (fun ls hl => ?_)
    refine lv_iinc (v := x5 + (1 : Int32)) (lv' := [(5, .int (x5 + (1 : Int32))), (4, .int (t0 + (0 : Int32))), (0, .ref (g.2.2 31)), (1, .int x1), (2, .int x2), (3, .int x3)]) C.1 C.2.1 dX12_right_58 hl (k := 5) rfl rfl (by decide) rfl (fun ls hl => ?_)
    refine lv_goto (tgt := 6) C.1 C.2.1 dX12_right_61 (by decide) ?_
    exact hk6 (t0 + (0 : Int32)) (x5 + (1 : Int32)) H locs ls (lv_sub hl [2, 3, 4, 5, 1, 0] rfl) hP hS hD
  · have hD := b_t c5 hD
    refine lv_iconst (v := (1 : Int32)) C.1 C.2.1 dX12_right_50 (by decide) ?_
    refine lv_goto (tgt := 55) C.1 C.2.1 dX12_right_51 (by decide) ?_
    refine lv_iadd C.1 C.2.1 dX12_right_55 ?_
    refine lv_istore (lv' := [(4, .int (t0 + (1 : Int32))), (0, .ref (g.2.2 31)), (1, .int x1), (2, .int x2), (3, .int x3), (5, .int x5)]) C.1 C.2.1 dX12_right_56 hl (by decide) rfl (fun ls hl => ?_)
    refine lv_iinc (v := x5 + (1 : Int32)) (lv' := [(5, .int (x5 + (1 : Int32))), (4, .int (t0 + (1 : Int32))), (0, .ref (g.2.2 31)), (1, .int x1), (2, .int x2), (3, .int x3)]) C.1 C.2.1 dX12_right_58 hl (k := 5) rfl rfl (by decide) rfl (fun ls hl => ?_)
    refine lv_goto (tgt := 6) C.1 C.2.1 dX12_right_61 (by decide) ?_
    exact hk6 (t0 + (1 : Int32)) (x5 + (1 : Int32)) H locs ls (lv_sub hl [2, 3, 4, 5, 1, 0] rfl) hP hS hD
set_option maxHeartbeats 4000000 in
set_option maxRecDepth 100000 in
theorem w_L_X12_right_6 (C : CM g A p s m args meth c cX12_right 6 RX12) (hr : meth.sig.returnType = some .int) (N : Nat) (σ : St) {h : Int64} {r : Int32} (x1 : Int32) (x2 : Int32) (x3 : Int32) : ∀ (n : Nat) (x4 : Int32) (x5 : Int32) (H : Heap) (locs : List Loc) (ls : Array Slot), lv_has ls 6 [(0, .ref (g.2.2 31)), (1, .int x1), (2, .int x2), (3, .int x3), (4, .int x4), (5, .int x5)] → va_P g.1 vwCl (wM g h σ) H → va_S A s.heap H locs → L_X12_right_6 N σ x1 x2 x3 n x4 x5 = some r → W p l e rm_X12_right s m args below meth c H locs 0 0 (MQ below (QiM g h A r σ) args s 0 0 A) (F0 m 6 ls []) := by
  intro n
  induction n with
  | zero =>
    intro x4 x5 H locs ls hl hP hS hD
    rw [L_X12_right_6] at hD
    cases hD
  | succ n ih =>
    intro x4 x5 H locs ls hl hP hS hD
    rw [L_X12_right_6] at hD
    refine lv_iload C.1 C.2.1 dX12_right_6 (lv_at hl 5 rfl) ?_
    refine lv_aload_n C.1 C.2.1 dX12_right_8 rfl (lv_at hl 0 rfl) ?_
    refine gf_X12_81_31 C hP dX12_right_9 ?_
    refine lv_icmp_ge (tgt := 64) C.1 C.2.1 dX12_right_12 (by decide) (fun c1 => ?_) (fun c1 => ?_)
    · have hD := b_t c1 hD
      refine lv_iload C.1 C.2.1 dX12_right_64 (lv_at hl 4 rfl) ?_
      cases hD
      exact ri_M C hr hP hS dX12_right_66
    · have hD := b_f c1 hD
      refine lv_iload C.1 C.2.1 dX12_right_15 (lv_at hl 4 rfl) ?_
      refine lv_aload_n C.1 C.2.1 dX12_right_17 rfl (lv_at hl 0 rfl) ?_
      refine lv_iload_n C.1 C.2.1 dX12_right_18 rfl (lv_at hl 1 rfl) ?_
      refine lv_iload_n C.1 C.2.1 dX12_right_19 rfl (lv_at hl 3 rfl) ?_
      refine lv_if_eq (tgt := 35) C.1 C.2.1 dX12_right_20 (by decide) (fun c2 => ?_) (fun c2 => ?_)
      · have hD := b_t c2 hD
        refine lv_iload C.1 C.2.1 dX12_right_35 (lv_at hl 5 rfl) ?_
        exact w_J_X12_right_37 C hr N σ (L_X12_right_6 N σ x1 x2 x3 n) x1 x2 x3 x5 x4 x1 x5 ih H locs ls (lv_sub hl [0, 1, 2, 3, 5] rfl) hP hS hD
      · have hD := b_f c2 hD
        refine lv_aload_n C.1 C.2.1 dX12_right_23 rfl (lv_at hl 0 rfl) ?_
        refine gf_X12_81_31 C hP dX12_right_24 ?_
        refine lv_iconst (v := (1 : Int32)) C.1 C.2.1 dX12_right_27 (by decide) ?_
        refine lv_isub C.1 C.2.1 dX12_right_28 ?_
        refine lv_iload C.1 C.2.1 dX12_right_29 (lv_at hl 5 rfl) ?_
        refine lv_isub C.1 C.2.1 dX12_right_31 ?_
        refine lv_goto (tgt := 37) C.1 C.2.1 dX12_right_32 (by decide) ?_
        exact w_J_X12_right_37 C hr N σ (L_X12_right_6 N σ x1 x2 x3 n) x1 x2 x3 x5 x4 x1 (((σ 31 3) - (1 : Int32)) - x5) ih H locs ls (lv_sub hl [0, 1, 2, 3, 5] rfl) hP hS hD
set_option maxHeartbeats 4000000 in
set_option maxRecDepth 100000 in
theorem c_X12_right (l : Launch) (g : Gx) (sz : Nat) (N : Nat) (σ : St) (x1 : Int32) (x2 : Int32) (x3 : Int32) {h : Int64} {r : Int32} (hD : D_X12_right N σ x1 x2 x3 = some r) : Met l yX12_right (Cond.code yX12_right cX12_right 6 (some .int) :: tb) rm_X12_right (PcM g h [.ref (g.2.2 31), .int x1, .int x2, .int x3] σ sz) (QiM g h (AM g sz) r σ) 0 0 (AM g sz) := by
  refine Met.ofW (cc := cX12_right) (maxL := 6) (ret := some .int) (by decide) rfl ?_
  intro p e s m args below meth c s₁ B hml hv
  have hv0 := hv
  obtain ⟨rfl, hsz, hP, -⟩ := hv
  subst hsz
  have C : CM g (AM g s.heap.size) p s m _ meth c cX12_right 6 RX12 := CM.of B hml (fun w h => List.mem_cons_of_mem _ h) rfl hv0
  have hr := B.returns
  have hS : va_S (AM g s.heap.size) s.heap s.heap [] := va_S.rf
  have hl := lv_entry ([.ref (g.2.2 31), .int x1, .int x2, .int x3]) (n := 6) (Nat.le_of_ble_eq_true rfl)
  rw [lg_entry_eq]
  generalize (lg_sl ([.ref (g.2.2 31), .int x1, .int x2, .int x3]) ++ List.replicate (6 - (lg_sl ([.ref (g.2.2 31), .int x1, .int x2, .int x3])).length) Slot.unset).toArray = ls at hl ⊢
  have hl : lv_has ls 6 [(0, .ref (g.2.2 31)), (1, .int x1), (2, .int x2), (3, .int x3)] := hl
  obtain ⟨H, hH⟩ : ∃ H, H = s.heap := ⟨_, rfl⟩
  have hP : va_P g.1 vwCl (wM g h σ) H := by rw [hH]; exact hP
  have hS : va_S (AM g s.heap.size) s.heap H [] := by rw [hH]; exact hS
  refine wH hH ?_
  obtain ⟨locs, hlo⟩ : ∃ locs : List Loc, locs = [] := ⟨_, rfl⟩
  rw [← hlo] at hS
  refine wL hlo ?_
  unfold D_X12_right at hD
  refine lv_iconst (v := (0 : Int32)) C.1 C.2.1 dX12_right_0 (by decide) ?_
  refine lv_istore (lv' := [(4, .int (0 : Int32)), (0, .ref (g.2.2 31)), (1, .int x1), (2, .int x2), (3, .int x3)]) C.1 C.2.1 dX12_right_1 hl (by decide) rfl (fun ls hl => ?_)
  refine lv_iconst (v := (0 : Int32)) C.1 C.2.1 dX12_right_3 (by decide) ?_
  refine lv_istore (lv' := [(5, .int (0 : Int32)), (4, .int (0 : Int32)), (0, .ref (g.2.2 31)), (1, .int x1), (2, .int x2), (3, .int x3)]) C.1 C.2.1 dX12_right_4 hl (by decide) rfl (fun ls hl => ?_)
  exact w_L_X12_right_6 C hr N σ x1 x2 x3 N (0 : Int32) (0 : Int32) H locs ls (lv_sub hl [2, 3, 4, 5, 1, 0] rfl) hP hS hD
abbrev rm_X12_tellsBy : Room := { frames := 2, cells := 0, slots := 0, locals := 51 }
set_option maxHeartbeats 4000000 in
set_option maxRecDepth 100000 in
theorem w_J_X12_tellsBy_67 (C : CM g A p s m args meth c cX12_tellsBy 5 RX12) (hr : meth.sig.returnType = some .int) (N : Nat) (σ : St) {h : Int64} {r : Int32} (x2 : Int32) (x3 : Int32) (x4 : Int32) : ∀  (H : Heap) (locs : List Loc) (ls : Array Slot), lv_has ls 5 [(0, .ref (g.2.2 31)), (2, .int x2), (3, .int x3), (4, .int x4)] → va_P g.1 vwCl (wM g h σ) H → va_S A s.heap H locs → J_X12_tellsBy_67 N σ x2 x3 x4 = some r → W p l e rm_X12_tellsBy s m args below meth c H locs 0 0 (MQ below (QiM g h A r σ) args s 0 0 A) (F0 m 67 ls []) := by
  intro  H locs ls hl hP hS hD
  unfold J_X12_tellsBy_67 at hD
  refine lv_bipush (v := (9 : Int32)) C.1 C.2.1 dX12_tellsBy_67 (by decide) ?_
  refine lv_iload C.1 C.2.1 dX12_tellsBy_69 (lv_at hl 3 rfl) ?_
  refine lv_imul C.1 C.2.1 dX12_tellsBy_71 ?_
  refine lv_aload_n C.1 C.2.1 dX12_tellsBy_72 rfl (lv_at hl 0 rfl) ?_
  refine lv_iload_n C.1 C.2.1 dX12_tellsBy_73 rfl (lv_at hl 1 rfl) ?_
  refine lv_iload_n C.1 C.2.1 dX12_tellsBy_74 rfl (lv_at hl 2 rfl) ?_
  obtain ⟨r7, hd7, hD⟩ := bp_some hD
  refine kVi_M (As := [.int x2, .int x3]) (rest := [.int ((9 : Int32) * x4)]) (ci := 12) (q0 := 0) C (c_X12_alike l g H.size N σ x2 x3 hd7) kw_X12_107 ⟨rfl, rfl⟩ ⟨Nat.le_of_ble_eq_true rfl, Nat.le_of_ble_eq_true rfl⟩ kv_X12_alike rfl rfl rfl hl.1 (Nat.le_of_ble_eq_true rfl) ⟨Nat.zero_le _, Nat.zero_le _⟩ dX12_tellsBy_75 hP hS rfl (fun H locs hP hS => ?_)
  refine lv_iadd C.1 C.2.1 dX12_tellsBy_78 ?_
  cases hD
  exact ri_M C hr hP hS dX12_tellsBy_79
set_option maxHeartbeats 4000000 in
set_option maxRecDepth 100000 in
theorem w_J_X12_tellsBy_13 (C : CM g A p s m args meth c cX12_tellsBy 5 RX12) (hr : meth.sig.returnType = some .int) (N : Nat) (σ : St) {h : Int64} {r : Int32} (x1 : Int32) (x2 : Int32) (x3 : Int32) (t1 : Int32) (t2 : Int32) (t3 : Int32) : ∀  (H : Heap) (locs : List Loc) (ls : Array Slot), lv_has ls 5 [(0, .ref (g.2.2 31)), (1, .int x1), (2, .int x2), (3, .int x3)] → va_P g.1 vwCl (wM g h σ) H → va_S A s.heap H locs → J_X12_tellsBy_13 N σ x1 x2 x3 t1 t2 t3 = some r → W p l e rm_X12_tellsBy s m args below meth c H locs 0 0 (MQ below (QiM g h A r σ) args s 0 0 A) (F0 m 13 ls [.int t3, .int t2, .int t1, .ref (g.2.2 31)]) := by
  intro  H locs ls hl hP hS hD
  unfold J_X12_tellsBy_13 at hD
  obtain ⟨r2, hd2, hD⟩ := bp_some hD
  refine kVi_M (As := [.int t1, .int t2, .int t3]) (rest := []) (ci := 12) (q0 := 0) C (c_X12_right l g H.size N σ t1 t2 t3 hd2) kw_X12_103 ⟨rfl, rfl⟩ ⟨Nat.le_of_ble_eq_true rfl, Nat.le_of_ble_eq_true rfl⟩ kv_X12_right rfl rfl rfl hl.1 (Nat.le_of_ble_eq_true rfl) ⟨Nat.zero_le _, Nat.zero_le _⟩ dX12_tellsBy_13 hP hS rfl (fun H locs hP hS => ?_)
  refine lv_istore (lv' := [(4, .int r2), (0, .ref (g.2.2 31)), (1, .int x1), (2, .int x2), (3, .int x3)]) C.1 C.2.1 dX12_tellsBy_16 hl (by decide) rfl (fun ls hl => ?_)
  refine lv_iload_n C.1 C.2.1 dX12_tellsBy_18 rfl (lv_at hl 2 rfl) ?_
  by_cases c3 : x1 = (1 : Int32)
  · have hD := b_t c3 hD
    refine lv_tableIn (off := 29) (tgt := 48) C.1 C.2.1 dX12_tellsBy_19 (by rw [c3]; decide) (by rw [c3]; decide) (by rw [c3]; rfl) (by decide) ?_
    refine lv_aload_n C.1 C.2.1 dX12_tellsBy_48 rfl (lv_at hl 1 rfl) ?_
    refine lv_iload_n C.1 C.2.1 dX12_tellsBy_49 rfl (lv_at hl 3 rfl) ?_
    refine lv_iload_n C.1 C.2.1 dX12_tellsBy_50 rfl (lv_at hl 4 rfl) ?_
    obtain ⟨r4, hd4, hD⟩ := bp_some hD
    refine kVi_M (As := [.int x2, .int x3]) (rest := []) (ci := 12) (q0 := 0) C (c_X12_alike l g H.size N σ x2 x3 hd4) kw_X12_107 ⟨rfl, rfl⟩ ⟨Nat.le_of_ble_eq_true rfl, Nat.le_of_ble_eq_true rfl⟩ kv_X12_alike rfl rfl rfl hl.1 (Nat.le_of_ble_eq_true rfl) ⟨Nat.zero_le _, Nat.zero_le _⟩ dX12_tellsBy_51 hP hS rfl (fun H locs hP hS => ?_)
    cases hD
    exact ri_M C hr hP hS dX12_tellsBy_54
  · have hD := b_f c3 hD
    by_cases c5 : x1 = (2 : Int32)
    · have hD := b_t c5 hD
      refine lv_tableIn (off := 36) (tgt := 55) C.1 C.2.1 dX12_tellsBy_19 (by rw [c5]; decide) (by rw [c5]; decide) (by rw [c5]; rfl) (by decide) ?_
      refine lv_iload C.1 C.2.1 dX12_tellsBy_55 (lv_at hl 0 rfl) ?_
      cases hD
      exact ri_M C hr hP hS dX12_tellsBy_57
    · have hD := b_f c5 hD
      by_cases c6 : x1 = (3 : Int32)
      · have hD := b_t c6 hD
        refine lv_tableIn (off := 48) (tgt := 67) C.1 C.2.1 dX12_tellsBy_19 (by rw [c6]; decide) (by rw [c6]; decide) (by rw [c6]; rfl) (by decide) ?_
        exact w_J_X12_tellsBy_67 C hr N σ x2 x3 r2 H locs ls (lv_sub hl [1, 3, 4, 0] rfl) hP hS hD
      · have hD := b_f c6 hD
        by_cases c8 : x1 = (4 : Int32)
        · have hD := b_t c8 hD
          refine lv_tableIn (off := 39) (tgt := 58) C.1 C.2.1 dX12_tellsBy_19 (by rw [c8]; decide) (by rw [c8]; decide) (by rw [c8]; rfl) (by decide) ?_
          refine lv_aload_n C.1 C.2.1 dX12_tellsBy_58 rfl (lv_at hl 1 rfl) ?_
          refine lv_iload_n C.1 C.2.1 dX12_tellsBy_59 rfl (lv_at hl 3 rfl) ?_
          refine lv_iload_n C.1 C.2.1 dX12_tellsBy_60 rfl (lv_at hl 4 rfl) ?_
          obtain ⟨r9, hd9, hD⟩ := bp_some hD
          refine kVi_M (As := [.int x2, .int x3]) (rest := []) (ci := 12) (q0 := 0) C (c_X12_alike l g H.size N σ x2 x3 hd9) kw_X12_107 ⟨rfl, rfl⟩ ⟨Nat.le_of_ble_eq_true rfl, Nat.le_of_ble_eq_true rfl⟩ kv_X12_alike rfl rfl rfl hl.1 (Nat.le_of_ble_eq_true rfl) ⟨Nat.zero_le _, Nat.zero_le _⟩ dX12_tellsBy_61 hP hS rfl (fun H locs hP hS => ?_)
          refine lv_iconst (v := (2 : Int32)) C.1 C.2.1 dX12_tellsBy_64 (by decide) ?_
          refine lv_irem C.1 C.2.1 dX12_tellsBy_65 (by decide) ?_
          cases hD
          exact ri_M C hr hP hS dX12_tellsBy_66
        · have hD := b_f c8 hD
          refine lv_tableOut (tgt := 67) C.1 C.2.1 dX12_tellsBy_19 (by have q3 := lv_neT c3 (a := 1) (by decide); have q5 := lv_neT c5 (a := 2) (by decide); have q6 := lv_neT c6 (a := 3) (by decide); have q8 := lv_neT c8 (a := 4) (by decide); omega) (by decide) ?_
          exact w_J_X12_tellsBy_67 C hr N σ x2 x3 r2 H locs ls (lv_sub hl [1, 3, 4, 0] rfl) hP hS hD
set_option maxHeartbeats 4000000 in
set_option maxRecDepth 100000 in
theorem c_X12_tellsBy (l : Launch) (g : Gx) (sz : Nat) (N : Nat) (σ : St) (x1 : Int32) (x2 : Int32) (x3 : Int32) {h : Int64} {r : Int32} (hD : D_X12_tellsBy N σ x1 x2 x3 = some r) : Met l yX12_tellsBy (Cond.code yX12_tellsBy cX12_tellsBy 5 (some .int) :: tb) rm_X12_tellsBy (PcM g h [.ref (g.2.2 31), .int x1, .int x2, .int x3] σ sz) (QiM g h (AM g sz) r σ) 0 0 (AM g sz) := by
  refine Met.ofW (cc := cX12_tellsBy) (maxL := 5) (ret := some .int) (by decide) rfl ?_
  intro p e s m args below meth c s₁ B hml hv
  have hv0 := hv
  obtain ⟨rfl, hsz, hP, -⟩ := hv
  subst hsz
  have C : CM g (AM g s.heap.size) p s m _ meth c cX12_tellsBy 5 RX12 := CM.of B hml (fun w h => List.mem_cons_of_mem _ h) rfl hv0
  have hr := B.returns
  have hS : va_S (AM g s.heap.size) s.heap s.heap [] := va_S.rf
  have hl := lv_entry ([.ref (g.2.2 31), .int x1, .int x2, .int x3]) (n := 5) (Nat.le_of_ble_eq_true rfl)
  rw [lg_entry_eq]
  generalize (lg_sl ([.ref (g.2.2 31), .int x1, .int x2, .int x3]) ++ List.replicate (5 - (lg_sl ([.ref (g.2.2 31), .int x1, .int x2, .int x3])).length) Slot.unset).toArray = ls at hl ⊢
  have hl : lv_has ls 5 [(0, .ref (g.2.2 31)), (1, .int x1), (2, .int x2), (3, .int x3)] := hl
  obtain ⟨H, hH⟩ : ∃ H, H = s.heap := ⟨_, rfl⟩
  have hP : va_P g.1 vwCl (wM g h σ) H := by rw [hH]; exact hP
  have hS : va_S (AM g s.heap.size) s.heap H [] := by rw [hH]; exact hS
  refine wH hH ?_
  obtain ⟨locs, hlo⟩ : ∃ locs : List Loc, locs = [] := ⟨_, rfl⟩
  rw [← hlo] at hS
  refine wL hlo ?_
  unfold D_X12_tellsBy at hD
  refine lv_aload_n C.1 C.2.1 dX12_tellsBy_0 rfl (lv_at hl 0 rfl) ?_
  refine lv_iload_n C.1 C.2.1 dX12_tellsBy_1 rfl (lv_at hl 2 rfl) ?_
  refine lv_iload_n C.1 C.2.1 dX12_tellsBy_2 rfl (lv_at hl 3 rfl) ?_
  refine lv_iload_n C.1 C.2.1 dX12_tellsBy_3 rfl (lv_at hl 1 rfl) ?_
  refine lv_iconst (v := (3 : Int32)) C.1 C.2.1 dX12_tellsBy_4 (by decide) ?_
  refine lv_icmp_ne (tgt := 12) C.1 C.2.1 dX12_tellsBy_5 (by decide) (fun c1 => ?_) (fun c1 => ?_)
  · have hD := b_f c1 hD
    refine lv_iconst (v := (0 : Int32)) C.1 C.2.1 dX12_tellsBy_12 (by decide) ?_
    exact w_J_X12_tellsBy_13 C hr N σ x1 x2 x3 x2 x3 (0 : Int32) H locs ls (lv_sub hl [0, 1, 2, 3] rfl) hP hS hD
  · have hD := b_t c1 hD
    refine lv_iconst (v := (1 : Int32)) C.1 C.2.1 dX12_tellsBy_8 (by decide) ?_
    refine lv_goto (tgt := 13) C.1 C.2.1 dX12_tellsBy_9 (by decide) ?_
    exact w_J_X12_tellsBy_13 C hr N σ x1 x2 x3 x2 x3 (1 : Int32) H locs ls (lv_sub hl [0, 1, 2, 3] rfl) hP hS hD
abbrev rm_X12_isFit : Room := { frames := 3, cells := 0, slots := 0, locals := 75 }
set_option maxHeartbeats 4000000 in
set_option maxRecDepth 100000 in
theorem w_L_X12_isFit_4 (C : CM g A p s m args meth c cX12_isFit 4 RX12) (hr : meth.sig.returnType = some .boolean) (N : Nat) (σ : St) {h : Int64} {r : Int32} (x1 : Int32) : ∀ (n : Nat) (x2 : Int32) (x3 : Int32) (H : Heap) (locs : List Loc) (ls : Array Slot), lv_has ls 4 [(0, .ref (g.2.2 31)), (1, .int x1), (2, .int x2), (3, .int x3)] → va_P g.1 vwCl (wM g h σ) H → va_S A s.heap H locs → L_X12_isFit_4 N σ x1 n x2 x3 = some r → W p l e rm_X12_isFit s m args below meth c H locs 0 0 (MQ below (QiM g h A r σ) args s 0 0 A) (F0 m 4 ls []) := by
  intro n
  induction n with
  | zero =>
    intro x2 x3 H locs ls hl hP hS hD
    rw [L_X12_isFit_4] at hD
    cases hD
  | succ n ih =>
    intro x2 x3 H locs ls hl hP hS hD
    rw [L_X12_isFit_4] at hD
    refine lv_iload_n C.1 C.2.1 dX12_isFit_4 rfl (lv_at hl 3 rfl) ?_
    refine lv_iconst (v := (3 : Int32)) C.1 C.2.1 dX12_isFit_5 (by decide) ?_
    refine lv_aload_n C.1 C.2.1 dX12_isFit_6 rfl (lv_at hl 0 rfl) ?_
    refine gf_X12_93_31 C hP dX12_isFit_7 ?_
    refine lv_imul C.1 C.2.1 dX12_isFit_10 ?_
    refine lv_icmp_ge (tgt := 65) C.1 C.2.1 dX12_isFit_11 (by decide) (fun c1 => ?_) (fun c1 => ?_)
    · have hD := b_t c1 hD
      refine lv_iload_n C.1 C.2.1 dX12_isFit_65 rfl (lv_at hl 2 rfl) ?_
      obtain ⟨hb2, hD⟩ := gb_some hD
      cases hD
      exact rz_M C hr hb2 hP hS dX12_isFit_66
    · have hD := b_f c1 hD
      refine lv_iload_n C.1 C.2.1 dX12_isFit_14 rfl (lv_at hl 2 rfl) ?_
      refine lv_if_eq (tgt := 57) C.1 C.2.1 dX12_isFit_15 (by decide) (fun c3 => ?_) (fun c3 => ?_)
      · have hD := b_t c3 hD
        refine lv_iconst (v := (0 : Int32)) C.1 C.2.1 dX12_isFit_57 (by decide) ?_
        refine lv_istore_n (lv' := [(2, .int (0 : Int32)), (0, .ref (g.2.2 31)), (1, .int x1), (3, .int x3)]) C.1 C.2.1 dX12_isFit_58 rfl hl (by decide) rfl (fun ls hl => ?_)
        refine lv_iinc (v := x3 + (3 : Int32)) (lv' := [(3, .int (x3 + (3 : Int32))), (2, .int (0 : Int32)), (0, .ref (g.2.2 31)), (1, .int x1)]) C.1 C.2.1 dX12_isFit_59 hl (k := 3) rfl rfl (by decide) rfl (fun ls hl => ?_)
        refine lv_goto (tgt := 4) C.1 C.2.1 dX12_isFit_62 (by decide) ?_
        exact ih (0 : Int32) (x3 + (3 : Int32)) H locs ls (lv_sub hl [2, 3, 1, 0] rfl) hP hS hD
      · have hD := b_f c3 hD
        refine lv_aload_n C.1 C.2.1 dX12_isFit_18 rfl (lv_at hl 0 rfl) ?_
        refine lv_aload_n C.1 C.2.1 dX12_isFit_19 rfl (lv_at hl 0 rfl) ?_
        refine gf_X12_13_31 C hP dX12_isFit_20 ?_
        refine lv_aload_n C.1 C.2.1 dX12_isFit_23 rfl (lv_at hl 0 rfl) ?_
        refine gf_X12_16_31 C hP dX12_isFit_24 ?_
        refine lv_iload_n C.1 C.2.1 dX12_isFit_27 rfl (lv_at hl 3 rfl) ?_
        refine lv_iconst (v := (1 : Int32)) C.1 C.2.1 dX12_isFit_28 (by decide) ?_
        refine lv_iadd C.1 C.2.1 dX12_isFit_29 ?_
        obtain ⟨hi4, hD⟩ := gi_some hD
        refine iaM C hP 3 rfl hi4 dX12_isFit_30 ?_
        obtain ⟨hi5, hD⟩ := gi_some hD
        refine iaM C hP 2 rfl hi5 dX12_isFit_31 ?_
        refine lv_aload_n C.1 C.2.1 dX12_isFit_32 rfl (lv_at hl 0 rfl) ?_
        refine gf_X12_16_31 C hP dX12_isFit_33 ?_
        refine lv_iload_n C.1 C.2.1 dX12_isFit_36 rfl (lv_at hl 3 rfl) ?_
        obtain ⟨hi6, hD⟩ := gi_some hD
        refine iaM C hP 3 rfl hi6 dX12_isFit_37 ?_
        refine lv_iload_n C.1 C.2.1 dX12_isFit_38 rfl (lv_at hl 1 rfl) ?_
        obtain ⟨r7, hd7, hD⟩ := bp_some hD
        refine kVi_M (As := [.int (σ 33 ((σ 34 ((x3 + (1 : Int32)).toNatClampNeg)).toNatClampNeg)), .int (σ 34 x3.toNatClampNeg), .int x1]) (rest := []) (ci := 12) (q0 := 0) C (c_X12_tellsBy l g H.size N σ (σ 33 ((σ 34 ((x3 + (1 : Int32)).toNatClampNeg)).toNatClampNeg)) (σ 34 x3.toNatClampNeg) x1 hd7) kw_X12_116 ⟨rfl, rfl⟩ ⟨Nat.le_of_ble_eq_true rfl, Nat.le_of_ble_eq_true rfl⟩ kv_X12_tellsBy rfl rfl rfl hl.1 (Nat.le_of_ble_eq_true rfl) ⟨Nat.zero_le _, Nat.zero_le _⟩ dX12_isFit_39 hP hS rfl (fun H locs hP hS => ?_)
        refine lv_aload_n C.1 C.2.1 dX12_isFit_42 rfl (lv_at hl 0 rfl) ?_
        refine gf_X12_16_31 C hP dX12_isFit_43 ?_
        refine lv_iload_n C.1 C.2.1 dX12_isFit_46 rfl (lv_at hl 3 rfl) ?_
        refine lv_iconst (v := (2 : Int32)) C.1 C.2.1 dX12_isFit_47 (by decide) ?_
        refine lv_iadd C.1 C.2.1 dX12_isFit_48 ?_
        obtain ⟨hi8, hD⟩ := gi_some hD
        refine iaM C hP 3 rfl hi8 dX12_isFit_49 ?_
        refine lv_icmp_ne (tgt := 57) C.1 C.2.1 dX12_isFit_50 (by decide) (fun c9 => ?_) (fun c9 => ?_)
        · have hD := b_f c9 hD
          refine lv_iconst (v := (0 : Int32)) C.1 C.2.1 dX12_isFit_57 (by decide) ?_
          refine lv_istore_n (lv' := [(2, .int (0 : Int32)), (0, .ref (g.2.2 31)), (1, .int x1), (3, .int x3)]) C.1 C.2.1 dX12_isFit_58 rfl hl (by decide) rfl (fun ls hl => ?_)
          refine lv_iinc (v := x3 + (3 : Int32)) (lv' := [(3, .int (x3 + (3 : Int32))), (2, .int (0 : Int32)), (0, .ref (g.2.2 31)), (1, .int x1)]) C.1 C.2.1 dX12_isFit_59 hl (k := 3) rfl rfl (by decide) rfl (fun ls hl => ?_)
          refine lv_goto (tgt := 4) C.1 C.2.1 dX12_isFit_62 (by decide) ?_
          exact ih (0 : Int32) (x3 + (3 : Int32)) H locs ls (lv_sub hl [2, 3, 1, 0] rfl) hP hS hD
        · have hD := b_t c9 hD
          refine lv_iconst (v := (1 : Int32)) C.1 C.2.1 dX12_isFit_53 (by decide) ?_
          refine lv_goto (tgt := 58) C.1 C.2.1 dX12_isFit_54 (by decide) ?_
          refine lv_istore_n (lv' := [(2, .int (1 : Int32)), (0, .ref (g.2.2 31)), (1, .int x1), (3, .int x3)]) C.1 C.2.1 dX12_isFit_58 rfl hl (by decide) rfl (fun ls hl => ?_)
          refine lv_iinc (v := x3 + (3 : Int32)) (lv' := [(3, .int (x3 + (3 : Int32))), (2, .int (1 : Int32)), (0, .ref (g.2.2 31)), (1, .int x1)]) C.1 C.2.1 dX12_isFit_59 hl (k := 3) rfl rfl (by decide) rfl (fun ls hl => ?_)
          refine lv_goto (tgt := 4) C.1 C.2.1 dX12_isFit_62 (by decide) ?_
          exact ih (1 : Int32) (x3 + (3 : Int32)) H locs ls (lv_sub hl [2, 3, 1, 0] rfl) hP hS hD
set_option maxHeartbeats 4000000 in
set_option maxRecDepth 100000 in
theorem c_X12_isFit (l : Launch) (g : Gx) (sz : Nat) (N : Nat) (σ : St) (x1 : Int32) {h : Int64} {r : Int32} (hD : D_X12_isFit N σ x1 = some r) : Met l yX12_isFit (Cond.code yX12_isFit cX12_isFit 4 (some .boolean) :: tb) rm_X12_isFit (PcM g h [.ref (g.2.2 31), .int x1] σ sz) (QiM g h (AM g sz) r σ) 0 0 (AM g sz) := by
  refine Met.ofW (cc := cX12_isFit) (maxL := 4) (ret := some .boolean) (by decide) rfl ?_
  intro p e s m args below meth c s₁ B hml hv
  have hv0 := hv
  obtain ⟨rfl, hsz, hP, -⟩ := hv
  subst hsz
  have C : CM g (AM g s.heap.size) p s m _ meth c cX12_isFit 4 RX12 := CM.of B hml (fun w h => List.mem_cons_of_mem _ h) rfl hv0
  have hr := B.returns
  have hS : va_S (AM g s.heap.size) s.heap s.heap [] := va_S.rf
  have hl := lv_entry ([.ref (g.2.2 31), .int x1]) (n := 4) (Nat.le_of_ble_eq_true rfl)
  rw [lg_entry_eq]
  generalize (lg_sl ([.ref (g.2.2 31), .int x1]) ++ List.replicate (4 - (lg_sl ([.ref (g.2.2 31), .int x1])).length) Slot.unset).toArray = ls at hl ⊢
  have hl : lv_has ls 4 [(0, .ref (g.2.2 31)), (1, .int x1)] := hl
  obtain ⟨H, hH⟩ : ∃ H, H = s.heap := ⟨_, rfl⟩
  have hP : va_P g.1 vwCl (wM g h σ) H := by rw [hH]; exact hP
  have hS : va_S (AM g s.heap.size) s.heap H [] := by rw [hH]; exact hS
  refine wH hH ?_
  obtain ⟨locs, hlo⟩ : ∃ locs : List Loc, locs = [] := ⟨_, rfl⟩
  rw [← hlo] at hS
  refine wL hlo ?_
  unfold D_X12_isFit at hD
  refine lv_iconst (v := (1 : Int32)) C.1 C.2.1 dX12_isFit_0 (by decide) ?_
  refine lv_istore_n (lv' := [(2, .int (1 : Int32)), (0, .ref (g.2.2 31)), (1, .int x1)]) C.1 C.2.1 dX12_isFit_1 rfl hl (by decide) rfl (fun ls hl => ?_)
  refine lv_iconst (v := (0 : Int32)) C.1 C.2.1 dX12_isFit_2 (by decide) ?_
  refine lv_istore_n (lv' := [(3, .int (0 : Int32)), (2, .int (1 : Int32)), (0, .ref (g.2.2 31)), (1, .int x1)]) C.1 C.2.1 dX12_isFit_3 rfl hl (by decide) rfl (fun ls hl => ?_)
  exact w_L_X12_isFit_4 C hr N σ x1 N (1 : Int32) (0 : Int32) H locs ls (lv_sub hl [2, 3, 1, 0] rfl) hP hS hD
abbrev rm_X12_layFit : Room := { frames := 4, cells := 0, slots := 0, locals := 98 }
set_option maxHeartbeats 4000000 in
set_option maxRecDepth 100000 in
theorem w_L_X12_layFit_2 (C : CM g A p s m args meth c cX12_layFit 2 RX12) (hr : meth.sig.returnType = none) (N : Nat) {h : Int64} {u : St} : ∀ (n : Nat) (x1 : Int32) (σ : St) (H : Heap) (locs : List Loc) (ls : Array Slot), lv_has ls 2 [(0, .ref (g.2.2 31)), (1, .int x1)] → va_P g.1 vwCl (wM g h σ) H → va_S A s.heap H locs → L_X12_layFit_2 N n x1 σ = some u → W p l e rm_X12_layFit s m args below meth c H locs 0 0 (MQ below (QvM g h A u) args s 0 0 A) (F0 m 2 ls []) := by
  intro n
  induction n with
  | zero =>
    intro x1 σ H locs ls hl hP hS hD
    rw [L_X12_layFit_2] at hD
    cases hD
  | succ n ih =>
    intro x1 σ H locs ls hl hP hS hD
    rw [L_X12_layFit_2] at hD
    refine lv_iload_n C.1 C.2.1 dX12_layFit_2 rfl (lv_at hl 1 rfl) ?_
    refine lv_aload_n C.1 C.2.1 dX12_layFit_3 rfl (lv_at hl 0 rfl) ?_
    refine gf_X12_90_31 C hP dX12_layFit_4 ?_
    refine lv_icmp_ge (tgt := 35) C.1 C.2.1 dX12_layFit_7 (by decide) (fun c1 => ?_) (fun c1 => ?_)
    · have hD := b_t c1 hD
      cases hD
      exact rv_M C hr hP hS dX12_layFit_35
    · have hD := b_f c1 hD
      refine lv_aload_n C.1 C.2.1 dX12_layFit_10 rfl (lv_at hl 0 rfl) ?_
      refine gf_X12_19_31 C hP dX12_layFit_11 ?_
      refine lv_iload_n C.1 C.2.1 dX12_layFit_14 rfl (lv_at hl 1 rfl) ?_
      refine lv_aload_n C.1 C.2.1 dX12_layFit_15 rfl (lv_at hl 0 rfl) ?_
      refine lv_iload_n C.1 C.2.1 dX12_layFit_16 rfl (lv_at hl 1 rfl) ?_
      obtain ⟨r2, hd2, hD⟩ := bp_some hD
      refine kVi_M (As := [.int x1]) (rest := [.int x1, .ref (g.2.2 35)]) (ci := 12) (q0 := 0) C (c_X12_isFit l g H.size N σ x1 hd2) kw_X12_120 ⟨rfl, rfl⟩ ⟨Nat.le_of_ble_eq_true rfl, Nat.le_of_ble_eq_true rfl⟩ kv_X12_isFit rfl rfl rfl hl.1 (Nat.le_of_ble_eq_true rfl) ⟨Nat.zero_le _, Nat.zero_le _⟩ dX12_layFit_17 hP hS rfl (fun H locs hP hS => ?_)
      refine lv_if_eq (tgt := 27) C.1 C.2.1 dX12_layFit_20 (by decide) (fun c3 => ?_) (fun c3 => ?_)
      · have hD := b_t c3 hD
        refine lv_iconst (v := (0 : Int32)) C.1 C.2.1 dX12_layFit_27 (by decide) ?_
        obtain ⟨hi4, hD⟩ := gi_some hD
        refine isM C hP hS 4 rfl hi4 dX12_layFit_28 st_35 (fun H locs hP hS => ?_)
        refine lv_iinc (v := x1 + (1 : Int32)) (lv' := [(1, .int (x1 + (1 : Int32))), (0, .ref (g.2.2 31))]) C.1 C.2.1 dX12_layFit_29 hl (k := 1) rfl rfl (by decide) rfl (fun ls hl => ?_)
        refine lv_goto (tgt := 2) C.1 C.2.1 dX12_layFit_32 (by decide) ?_
        exact ih (x1 + (1 : Int32)) (pt σ 35 x1.toNatClampNeg (0 : Int32)) H locs ls (lv_sub hl [1, 0] rfl) hP hS hD
      · have hD := b_f c3 hD
        refine lv_iconst (v := (1 : Int32)) C.1 C.2.1 dX12_layFit_23 (by decide) ?_
        refine lv_goto (tgt := 28) C.1 C.2.1 dX12_layFit_24 (by decide) ?_
        obtain ⟨hi5, hD⟩ := gi_some hD
        refine isM C hP hS 4 rfl hi5 dX12_layFit_28 st_35 (fun H locs hP hS => ?_)
        refine lv_iinc (v := x1 + (1 : Int32)) (lv' := [(1, .int (x1 + (1 : Int32))), (0, .ref (g.2.2 31))]) C.1 C.2.1 dX12_layFit_29 hl (k := 1) rfl rfl (by decide) rfl (fun ls hl => ?_)
        refine lv_goto (tgt := 2) C.1 C.2.1 dX12_layFit_32 (by decide) ?_
        exact ih (x1 + (1 : Int32)) (pt σ 35 x1.toNatClampNeg (1 : Int32)) H locs ls (lv_sub hl [1, 0] rfl) hP hS hD
set_option maxHeartbeats 4000000 in
set_option maxRecDepth 100000 in
theorem c_X12_layFit (l : Launch) (g : Gx) (sz : Nat) (N : Nat) (σ : St) {h : Int64} {u : St} (hD : D_X12_layFit N σ = some u) : Met l yX12_layFit (Cond.code yX12_layFit cX12_layFit 2 (none) :: tb) rm_X12_layFit (PcM g h [.ref (g.2.2 31)] σ sz) (QvM g h (AM g sz) u) 0 0 (AM g sz) := by
  refine Met.ofW (cc := cX12_layFit) (maxL := 2) (ret := none) (by decide) rfl ?_
  intro p e s m args below meth c s₁ B hml hv
  have hv0 := hv
  obtain ⟨rfl, hsz, hP, -⟩ := hv
  subst hsz
  have C : CM g (AM g s.heap.size) p s m _ meth c cX12_layFit 2 RX12 := CM.of B hml (fun w h => List.mem_cons_of_mem _ h) rfl hv0
  have hr := B.returns
  have hS : va_S (AM g s.heap.size) s.heap s.heap [] := va_S.rf
  have hl := lv_entry ([.ref (g.2.2 31)]) (n := 2) (Nat.le_of_ble_eq_true rfl)
  rw [lg_entry_eq]
  generalize (lg_sl ([.ref (g.2.2 31)]) ++ List.replicate (2 - (lg_sl ([.ref (g.2.2 31)])).length) Slot.unset).toArray = ls at hl ⊢
  have hl : lv_has ls 2 [(0, .ref (g.2.2 31))] := hl
  obtain ⟨H, hH⟩ : ∃ H, H = s.heap := ⟨_, rfl⟩
  have hP : va_P g.1 vwCl (wM g h σ) H := by rw [hH]; exact hP
  have hS : va_S (AM g s.heap.size) s.heap H [] := by rw [hH]; exact hS
  refine wH hH ?_
  obtain ⟨locs, hlo⟩ : ∃ locs : List Loc, locs = [] := ⟨_, rfl⟩
  rw [← hlo] at hS
  refine wL hlo ?_
  unfold D_X12_layFit at hD
  refine lv_iconst (v := (0 : Int32)) C.1 C.2.1 dX12_layFit_0 (by decide) ?_
  refine lv_istore_n (lv' := [(1, .int (0 : Int32)), (0, .ref (g.2.2 31))]) C.1 C.2.1 dX12_layFit_1 rfl hl (by decide) rfl (fun ls hl => ?_)
  exact w_L_X12_layFit_2 C hr N N (0 : Int32) σ H locs ls (lv_sub hl [1, 0] rfl) hP hS hD
abbrev rm_X12_fitMany : Room := { frames := 0, cells := 0, slots := 0, locals := 0 }
set_option maxHeartbeats 4000000 in
set_option maxRecDepth 100000 in
theorem w_L_X12_fitMany_4 (C : CM g A p s m args meth c cX12_fitMany 3 RX12) (hr : meth.sig.returnType = some .int) (N : Nat) (σ : St) {h : Int64} {r : Int32} : ∀ (n : Nat) (x1 : Int32) (x2 : Int32) (H : Heap) (locs : List Loc) (ls : Array Slot), lv_has ls 3 [(0, .ref (g.2.2 31)), (1, .int x1), (2, .int x2)] → va_P g.1 vwCl (wM g h σ) H → va_S A s.heap H locs → L_X12_fitMany_4 N σ n x1 x2 = some r → W p l e rm_X12_fitMany s m args below meth c H locs 0 0 (MQ below (QiM g h A r σ) args s 0 0 A) (F0 m 4 ls []) := by
  intro n
  induction n with
  | zero =>
    intro x1 x2 H locs ls hl hP hS hD
    rw [L_X12_fitMany_4] at hD
    cases hD
  | succ n ih =>
    intro x1 x2 H locs ls hl hP hS hD
    rw [L_X12_fitMany_4] at hD
    refine lv_iload_n C.1 C.2.1 dX12_fitMany_4 rfl (lv_at hl 2 rfl) ?_
    refine lv_aload_n C.1 C.2.1 dX12_fitMany_5 rfl (lv_at hl 0 rfl) ?_
    refine gf_X12_90_31 C hP dX12_fitMany_6 ?_
    refine lv_icmp_ge (tgt := 27) C.1 C.2.1 dX12_fitMany_9 (by decide) (fun c1 => ?_) (fun c1 => ?_)
    · have hD := b_t c1 hD
      refine lv_iload_n C.1 C.2.1 dX12_fitMany_27 rfl (lv_at hl 1 rfl) ?_
      cases hD
      exact ri_M C hr hP hS dX12_fitMany_28
    · have hD := b_f c1 hD
      refine lv_iload_n C.1 C.2.1 dX12_fitMany_12 rfl (lv_at hl 1 rfl) ?_
      refine lv_aload_n C.1 C.2.1 dX12_fitMany_13 rfl (lv_at hl 0 rfl) ?_
      refine gf_X12_19_31 C hP dX12_fitMany_14 ?_
      refine lv_iload_n C.1 C.2.1 dX12_fitMany_17 rfl (lv_at hl 2 rfl) ?_
      obtain ⟨hi2, hD⟩ := gi_some hD
      refine iaM C hP 4 rfl hi2 dX12_fitMany_18 ?_
      refine lv_iadd C.1 C.2.1 dX12_fitMany_19 ?_
      refine lv_istore_n (lv' := [(1, .int (x1 + (σ 35 x2.toNatClampNeg))), (0, .ref (g.2.2 31)), (2, .int x2)]) C.1 C.2.1 dX12_fitMany_20 rfl hl (by decide) rfl (fun ls hl => ?_)
      refine lv_iinc (v := x2 + (1 : Int32)) (lv' := [(2, .int (x2 + (1 : Int32))), (1, .int (x1 + (σ 35 x2.toNatClampNeg))), (0, .ref (g.2.2 31))]) C.1 C.2.1 dX12_fitMany_21 hl (k := 2) rfl rfl (by decide) rfl (fun ls hl => ?_)
      refine lv_goto (tgt := 4) C.1 C.2.1 dX12_fitMany_24 (by decide) ?_
      exact ih (x1 + (σ 35 x2.toNatClampNeg)) (x2 + (1 : Int32)) H locs ls (lv_sub hl [2, 1, 0] rfl) hP hS hD
set_option maxHeartbeats 4000000 in
set_option maxRecDepth 100000 in
theorem c_X12_fitMany (l : Launch) (g : Gx) (sz : Nat) (N : Nat) (σ : St) {h : Int64} {r : Int32} (hD : D_X12_fitMany N σ = some r) : Met l yX12_fitMany (Cond.code yX12_fitMany cX12_fitMany 3 (some .int) :: tb) rm_X12_fitMany (PcM g h [.ref (g.2.2 31)] σ sz) (QiM g h (AM g sz) r σ) 0 0 (AM g sz) := by
  refine Met.ofW (cc := cX12_fitMany) (maxL := 3) (ret := some .int) (by decide) rfl ?_
  intro p e s m args below meth c s₁ B hml hv
  have hv0 := hv
  obtain ⟨rfl, hsz, hP, -⟩ := hv
  subst hsz
  have C : CM g (AM g s.heap.size) p s m _ meth c cX12_fitMany 3 RX12 := CM.of B hml (fun w h => List.mem_cons_of_mem _ h) rfl hv0
  have hr := B.returns
  have hS : va_S (AM g s.heap.size) s.heap s.heap [] := va_S.rf
  have hl := lv_entry ([.ref (g.2.2 31)]) (n := 3) (Nat.le_of_ble_eq_true rfl)
  rw [lg_entry_eq]
  generalize (lg_sl ([.ref (g.2.2 31)]) ++ List.replicate (3 - (lg_sl ([.ref (g.2.2 31)])).length) Slot.unset).toArray = ls at hl ⊢
  have hl : lv_has ls 3 [(0, .ref (g.2.2 31))] := hl
  obtain ⟨H, hH⟩ : ∃ H, H = s.heap := ⟨_, rfl⟩
  have hP : va_P g.1 vwCl (wM g h σ) H := by rw [hH]; exact hP
  have hS : va_S (AM g s.heap.size) s.heap H [] := by rw [hH]; exact hS
  refine wH hH ?_
  obtain ⟨locs, hlo⟩ : ∃ locs : List Loc, locs = [] := ⟨_, rfl⟩
  rw [← hlo] at hS
  refine wL hlo ?_
  unfold D_X12_fitMany at hD
  refine lv_iconst (v := (0 : Int32)) C.1 C.2.1 dX12_fitMany_0 (by decide) ?_
  refine lv_istore_n (lv' := [(1, .int (0 : Int32)), (0, .ref (g.2.2 31))]) C.1 C.2.1 dX12_fitMany_1 rfl hl (by decide) rfl (fun ls hl => ?_)
  refine lv_iconst (v := (0 : Int32)) C.1 C.2.1 dX12_fitMany_2 (by decide) ?_
  refine lv_istore_n (lv' := [(2, .int (0 : Int32)), (1, .int (0 : Int32)), (0, .ref (g.2.2 31))]) C.1 C.2.1 dX12_fitMany_3 rfl hl (by decide) rfl (fun ls hl => ?_)
  exact w_L_X12_fitMany_4 C hr N σ N (0 : Int32) (0 : Int32) H locs ls (lv_sub hl [2, 1, 0] rfl) hP hS hD
abbrev rm_X12_laySizes : Room := { frames := 3, cells := 0, slots := 0, locals := 75 }
set_option maxHeartbeats 4000000 in
set_option maxRecDepth 100000 in
theorem w_L_X12_laySizes_23 (C : CM g A p s m args meth c cX12_laySizes 4 RX12) (hr : meth.sig.returnType = none) (N : Nat) {h : Int64} {u : St} (x1 : Int32) (x2 : Int32) : ∀ (n : Nat) (x3 : Int32) (σ : St) (H : Heap) (locs : List Loc) (ls : Array Slot), lv_has ls 4 [(0, .ref (g.2.2 31)), (1, .int x1), (2, .int x2), (3, .int x3)] → va_P g.1 vwCl (wM g h σ) H → va_S A s.heap H locs → L_X12_laySizes_23 N x1 x2 n x3 σ = some u → W p l e rm_X12_laySizes s m args below meth c H locs 0 0 (MQ below (QvM g h A u) args s 0 0 A) (F0 m 23 ls []) := by
  intro n
  induction n with
  | zero =>
    intro x3 σ H locs ls hl hP hS hD
    rw [L_X12_laySizes_23] at hD
    cases hD
  | succ n ih =>
    intro x3 σ H locs ls hl hP hS hD
    rw [L_X12_laySizes_23] at hD
    refine lv_iload_n C.1 C.2.1 dX12_laySizes_23 rfl (lv_at hl 3 rfl) ?_
    refine lv_aload_n C.1 C.2.1 dX12_laySizes_24 rfl (lv_at hl 0 rfl) ?_
    refine gf_X12_90_31 C hP dX12_laySizes_25 ?_
    refine lv_icmp_ge (tgt := 63) C.1 C.2.1 dX12_laySizes_28 (by decide) (fun c2 => ?_) (fun c2 => ?_)
    · have hD := b_t c2 hD
      cases hD
      exact rv_M C hr hP hS dX12_laySizes_63
    · have hD := b_f c2 hD
      refine lv_aload_n C.1 C.2.1 dX12_laySizes_31 rfl (lv_at hl 0 rfl) ?_
      refine gf_X12_19_31 C hP dX12_laySizes_32 ?_
      refine lv_iload_n C.1 C.2.1 dX12_laySizes_35 rfl (lv_at hl 3 rfl) ?_
      obtain ⟨hi3, hD⟩ := gi_some hD
      refine iaM C hP 4 rfl hi3 dX12_laySizes_36 ?_
      refine lv_iconst (v := (1 : Int32)) C.1 C.2.1 dX12_laySizes_37 (by decide) ?_
      refine lv_icmp_ne (tgt := 57) C.1 C.2.1 dX12_laySizes_38 (by decide) (fun c4 => ?_) (fun c4 => ?_)
      · have hD := b_f c4 hD
        refine lv_iinc (v := x3 + (1 : Int32)) (lv' := [(3, .int (x3 + (1 : Int32))), (0, .ref (g.2.2 31)), (1, .int x1), (2, .int x2)]) C.1 C.2.1 dX12_laySizes_57 hl (k := 3) rfl rfl (by decide) rfl (fun ls hl => ?_)
        refine lv_goto (tgt := 23) C.1 C.2.1 dX12_laySizes_60 (by decide) ?_
        exact ih (x3 + (1 : Int32)) σ H locs ls (lv_sub hl [1, 2, 3, 0] rfl) hP hS hD
      · have hD := b_t c4 hD
        refine lv_aload_n C.1 C.2.1 dX12_laySizes_41 rfl (lv_at hl 0 rfl) ?_
        refine gf_X12_22_31 C hP dX12_laySizes_42 ?_
        refine lv_aload_n C.1 C.2.1 dX12_laySizes_45 rfl (lv_at hl 0 rfl) ?_
        refine lv_iload_n C.1 C.2.1 dX12_laySizes_46 rfl (lv_at hl 1 rfl) ?_
        refine lv_iload_n C.1 C.2.1 dX12_laySizes_47 rfl (lv_at hl 2 rfl) ?_
        refine lv_iload_n C.1 C.2.1 dX12_laySizes_48 rfl (lv_at hl 3 rfl) ?_
        obtain ⟨r5, hd5, hD⟩ := bp_some hD
        refine kVi_M (As := [.int x1, .int x2, .int x3]) (rest := [.ref (g.2.2 36)]) (ci := 12) (q0 := 0) C (c_X12_tellsBy l g H.size N σ x1 x2 x3 hd5) kw_X12_116 ⟨rfl, rfl⟩ ⟨Nat.le_of_ble_eq_true rfl, Nat.le_of_ble_eq_true rfl⟩ kv_X12_tellsBy rfl rfl rfl hl.1 (Nat.le_of_ble_eq_true rfl) ⟨Nat.zero_le _, Nat.zero_le _⟩ dX12_laySizes_49 hP hS rfl (fun H locs hP hS => ?_)
        refine lv_dup2_11 C.1 C.2.1 dX12_laySizes_52 rfl rfl ?_
        obtain ⟨hi6, hD⟩ := gi_some hD
        refine iaM C hP 5 rfl hi6 dX12_laySizes_53 ?_
        refine lv_iconst (v := (1 : Int32)) C.1 C.2.1 dX12_laySizes_54 (by decide) ?_
        refine lv_iadd C.1 C.2.1 dX12_laySizes_55 ?_
        obtain ⟨hi7, hD⟩ := gi_some hD
        refine isM C hP hS 5 rfl hi7 dX12_laySizes_56 st_36 (fun H locs hP hS => ?_)
        refine lv_iinc (v := x3 + (1 : Int32)) (lv' := [(3, .int (x3 + (1 : Int32))), (0, .ref (g.2.2 31)), (1, .int x1), (2, .int x2)]) C.1 C.2.1 dX12_laySizes_57 hl (k := 3) rfl rfl (by decide) rfl (fun ls hl => ?_)
        refine lv_goto (tgt := 23) C.1 C.2.1 dX12_laySizes_60 (by decide) ?_
        exact ih (x3 + (1 : Int32)) (pt σ 36 r5.toNatClampNeg ((σ 36 r5.toNatClampNeg) + (1 : Int32))) H locs ls (lv_sub hl [1, 2, 3, 0] rfl) hP hS hD
set_option maxHeartbeats 4000000 in
set_option maxRecDepth 100000 in
theorem w_L_X12_laySizes_2 (C : CM g A p s m args meth c cX12_laySizes 4 RX12) (hr : meth.sig.returnType = none) (N : Nat) {h : Int64} {u : St} (x1 : Int32) (x2 : Int32) : ∀ (n : Nat) (x3 : Int32) (σ : St) (H : Heap) (locs : List Loc) (ls : Array Slot), lv_has ls 4 [(0, .ref (g.2.2 31)), (1, .int x1), (2, .int x2), (3, .int x3)] → va_P g.1 vwCl (wM g h σ) H → va_S A s.heap H locs → L_X12_laySizes_2 N x1 x2 n x3 σ = some u → W p l e rm_X12_laySizes s m args below meth c H locs 0 0 (MQ below (QvM g h A u) args s 0 0 A) (F0 m 2 ls []) := by
  intro n
  induction n with
  | zero =>
    intro x3 σ H locs ls hl hP hS hD
    rw [L_X12_laySizes_2] at hD
    cases hD
  | succ n ih =>
    intro x3 σ H locs ls hl hP hS hD
    rw [L_X12_laySizes_2] at hD
    refine lv_iload_n C.1 C.2.1 dX12_laySizes_2 rfl (lv_at hl 3 rfl) ?_
    refine lv_bipush (v := (41 : Int32)) C.1 C.2.1 dX12_laySizes_3 (by decide) ?_
    refine lv_icmp_ge (tgt := 21) C.1 C.2.1 dX12_laySizes_5 (by decide) (fun c1 => ?_) (fun c1 => ?_)
    · have hD := b_t c1 hD
      refine lv_iconst (v := (0 : Int32)) C.1 C.2.1 dX12_laySizes_21 (by decide) ?_
      refine lv_istore_n (lv' := [(3, .int (0 : Int32)), (0, .ref (g.2.2 31)), (1, .int x1), (2, .int x2)]) C.1 C.2.1 dX12_laySizes_22 rfl hl (by decide) rfl (fun ls hl => ?_)
      exact w_L_X12_laySizes_23 C hr N x1 x2 N (0 : Int32) σ H locs ls (lv_sub hl [1, 2, 3, 0] rfl) hP hS hD
    · have hD := b_f c1 hD
      refine lv_aload_n C.1 C.2.1 dX12_laySizes_8 rfl (lv_at hl 0 rfl) ?_
      refine gf_X12_22_31 C hP dX12_laySizes_9 ?_
      refine lv_iload_n C.1 C.2.1 dX12_laySizes_12 rfl (lv_at hl 3 rfl) ?_
      refine lv_iconst (v := (0 : Int32)) C.1 C.2.1 dX12_laySizes_13 (by decide) ?_
      obtain ⟨hi8, hD⟩ := gi_some hD
      refine isM C hP hS 5 rfl hi8 dX12_laySizes_14 st_36 (fun H locs hP hS => ?_)
      refine lv_iinc (v := x3 + (1 : Int32)) (lv' := [(3, .int (x3 + (1 : Int32))), (0, .ref (g.2.2 31)), (1, .int x1), (2, .int x2)]) C.1 C.2.1 dX12_laySizes_15 hl (k := 3) rfl rfl (by decide) rfl (fun ls hl => ?_)
      refine lv_goto (tgt := 2) C.1 C.2.1 dX12_laySizes_18 (by decide) ?_
      exact ih (x3 + (1 : Int32)) (pt σ 36 x3.toNatClampNeg (0 : Int32)) H locs ls (lv_sub hl [1, 2, 3, 0] rfl) hP hS hD
set_option maxHeartbeats 4000000 in
set_option maxRecDepth 100000 in
theorem c_X12_laySizes (l : Launch) (g : Gx) (sz : Nat) (N : Nat) (σ : St) (x1 : Int32) (x2 : Int32) {h : Int64} {u : St} (hD : D_X12_laySizes N σ x1 x2 = some u) : Met l yX12_laySizes (Cond.code yX12_laySizes cX12_laySizes 4 (none) :: tb) rm_X12_laySizes (PcM g h [.ref (g.2.2 31), .int x1, .int x2] σ sz) (QvM g h (AM g sz) u) 0 0 (AM g sz) := by
  refine Met.ofW (cc := cX12_laySizes) (maxL := 4) (ret := none) (by decide) rfl ?_
  intro p e s m args below meth c s₁ B hml hv
  have hv0 := hv
  obtain ⟨rfl, hsz, hP, -⟩ := hv
  subst hsz
  have C : CM g (AM g s.heap.size) p s m _ meth c cX12_laySizes 4 RX12 := CM.of B hml (fun w h => List.mem_cons_of_mem _ h) rfl hv0
  have hr := B.returns
  have hS : va_S (AM g s.heap.size) s.heap s.heap [] := va_S.rf
  have hl := lv_entry ([.ref (g.2.2 31), .int x1, .int x2]) (n := 4) (Nat.le_of_ble_eq_true rfl)
  rw [lg_entry_eq]
  generalize (lg_sl ([.ref (g.2.2 31), .int x1, .int x2]) ++ List.replicate (4 - (lg_sl ([.ref (g.2.2 31), .int x1, .int x2])).length) Slot.unset).toArray = ls at hl ⊢
  have hl : lv_has ls 4 [(0, .ref (g.2.2 31)), (1, .int x1), (2, .int x2)] := hl
  obtain ⟨H, hH⟩ : ∃ H, H = s.heap := ⟨_, rfl⟩
  have hP : va_P g.1 vwCl (wM g h σ) H := by rw [hH]; exact hP
  have hS : va_S (AM g s.heap.size) s.heap H [] := by rw [hH]; exact hS
  refine wH hH ?_
  obtain ⟨locs, hlo⟩ : ∃ locs : List Loc, locs = [] := ⟨_, rfl⟩
  rw [← hlo] at hS
  refine wL hlo ?_
  unfold D_X12_laySizes at hD
  refine lv_iconst (v := (0 : Int32)) C.1 C.2.1 dX12_laySizes_0 (by decide) ?_
  refine lv_istore_n (lv' := [(3, .int (0 : Int32)), (0, .ref (g.2.2 31)), (1, .int x1), (2, .int x2)]) C.1 C.2.1 dX12_laySizes_1 rfl hl (by decide) rfl (fun ls hl => ?_)
  exact w_L_X12_laySizes_2 C hr N x1 x2 N (0 : Int32) σ H locs ls (lv_sub hl [1, 2, 3, 0] rfl) hP hS hD
abbrev rm_X12_greatest : Room := { frames := 0, cells := 0, slots := 0, locals := 0 }
set_option maxHeartbeats 4000000 in
set_option maxRecDepth 100000 in
theorem w_L_X12_greatest_4 (C : CM g A p s m args meth c cX12_greatest 3 RX12) (hr : meth.sig.returnType = some .int) (N : Nat) (σ : St) {h : Int64} {r : Int32} : ∀ (n : Nat) (x1 : Int32) (x2 : Int32) (H : Heap) (locs : List Loc) (ls : Array Slot), lv_has ls 3 [(0, .ref (g.2.2 31)), (1, .int x1), (2, .int x2)] → va_P g.1 vwCl (wM g h σ) H → va_S A s.heap H locs → L_X12_greatest_4 N σ n x1 x2 = some r → W p l e rm_X12_greatest s m args below meth c H locs 0 0 (MQ below (QiM g h A r σ) args s 0 0 A) (F0 m 4 ls []) := by
  intro n
  induction n with
  | zero =>
    intro x1 x2 H locs ls hl hP hS hD
    rw [L_X12_greatest_4] at hD
    cases hD
  | succ n ih =>
    intro x1 x2 H locs ls hl hP hS hD
    rw [L_X12_greatest_4] at hD
    refine lv_iload_n C.1 C.2.1 dX12_greatest_4 rfl (lv_at hl 2 rfl) ?_
    refine lv_bipush (v := (41 : Int32)) C.1 C.2.1 dX12_greatest_5 (by decide) ?_
    refine lv_icmp_ge (tgt := 37) C.1 C.2.1 dX12_greatest_7 (by decide) (fun c1 => ?_) (fun c1 => ?_)
    · have hD := b_t c1 hD
      refine lv_iload_n C.1 C.2.1 dX12_greatest_37 rfl (lv_at hl 1 rfl) ?_
      cases hD
      exact ri_M C hr hP hS dX12_greatest_38
    · have hD := b_f c1 hD
      refine lv_aload_n C.1 C.2.1 dX12_greatest_10 rfl (lv_at hl 0 rfl) ?_
      refine gf_X12_22_31 C hP dX12_greatest_11 ?_
      refine lv_iload_n C.1 C.2.1 dX12_greatest_14 rfl (lv_at hl 2 rfl) ?_
      obtain ⟨hi2, hD⟩ := gi_some hD
      refine iaM C hP 5 rfl hi2 dX12_greatest_15 ?_
      refine lv_iload_n C.1 C.2.1 dX12_greatest_16 rfl (lv_at hl 1 rfl) ?_
      refine lv_icmp_le (tgt := 29) C.1 C.2.1 dX12_greatest_17 (by decide) (fun c3 => ?_) (fun c3 => ?_)
      · have hD := b_t c3 hD
        refine lv_iload_n C.1 C.2.1 dX12_greatest_29 rfl (lv_at hl 1 rfl) ?_
        refine lv_istore_n (lv' := [(1, .int x1), (0, .ref (g.2.2 31)), (2, .int x2)]) C.1 C.2.1 dX12_greatest_30 rfl hl (by decide) rfl (fun ls hl => ?_)
        refine lv_iinc (v := x2 + (1 : Int32)) (lv' := [(2, .int (x2 + (1 : Int32))), (1, .int x1), (0, .ref (g.2.2 31))]) C.1 C.2.1 dX12_greatest_31 hl (k := 2) rfl rfl (by decide) rfl (fun ls hl => ?_)
        refine lv_goto (tgt := 4) C.1 C.2.1 dX12_greatest_34 (by decide) ?_
        exact ih x1 (x2 + (1 : Int32)) H locs ls (lv_sub hl [2, 1, 0] rfl) hP hS hD
      · have hD := b_f c3 hD
        refine lv_aload_n C.1 C.2.1 dX12_greatest_20 rfl (lv_at hl 0 rfl) ?_
        refine gf_X12_22_31 C hP dX12_greatest_21 ?_
        refine lv_iload_n C.1 C.2.1 dX12_greatest_24 rfl (lv_at hl 2 rfl) ?_
        obtain ⟨hi4, hD⟩ := gi_some hD
        refine iaM C hP 5 rfl hi4 dX12_greatest_25 ?_
        refine lv_goto (tgt := 30) C.1 C.2.1 dX12_greatest_26 (by decide) ?_
        refine lv_istore_n (lv' := [(1, .int (σ 36 x2.toNatClampNeg)), (0, .ref (g.2.2 31)), (2, .int x2)]) C.1 C.2.1 dX12_greatest_30 rfl hl (by decide) rfl (fun ls hl => ?_)
        refine lv_iinc (v := x2 + (1 : Int32)) (lv' := [(2, .int (x2 + (1 : Int32))), (1, .int (σ 36 x2.toNatClampNeg)), (0, .ref (g.2.2 31))]) C.1 C.2.1 dX12_greatest_31 hl (k := 2) rfl rfl (by decide) rfl (fun ls hl => ?_)
        refine lv_goto (tgt := 4) C.1 C.2.1 dX12_greatest_34 (by decide) ?_
        exact ih (σ 36 x2.toNatClampNeg) (x2 + (1 : Int32)) H locs ls (lv_sub hl [2, 1, 0] rfl) hP hS hD
set_option maxHeartbeats 4000000 in
set_option maxRecDepth 100000 in
theorem c_X12_greatest (l : Launch) (g : Gx) (sz : Nat) (N : Nat) (σ : St) {h : Int64} {r : Int32} (hD : D_X12_greatest N σ = some r) : Met l yX12_greatest (Cond.code yX12_greatest cX12_greatest 3 (some .int) :: tb) rm_X12_greatest (PcM g h [.ref (g.2.2 31)] σ sz) (QiM g h (AM g sz) r σ) 0 0 (AM g sz) := by
  refine Met.ofW (cc := cX12_greatest) (maxL := 3) (ret := some .int) (by decide) rfl ?_
  intro p e s m args below meth c s₁ B hml hv
  have hv0 := hv
  obtain ⟨rfl, hsz, hP, -⟩ := hv
  subst hsz
  have C : CM g (AM g s.heap.size) p s m _ meth c cX12_greatest 3 RX12 := CM.of B hml (fun w h => List.mem_cons_of_mem _ h) rfl hv0
  have hr := B.returns
  have hS : va_S (AM g s.heap.size) s.heap s.heap [] := va_S.rf
  have hl := lv_entry ([.ref (g.2.2 31)]) (n := 3) (Nat.le_of_ble_eq_true rfl)
  rw [lg_entry_eq]
  generalize (lg_sl ([.ref (g.2.2 31)]) ++ List.replicate (3 - (lg_sl ([.ref (g.2.2 31)])).length) Slot.unset).toArray = ls at hl ⊢
  have hl : lv_has ls 3 [(0, .ref (g.2.2 31))] := hl
  obtain ⟨H, hH⟩ : ∃ H, H = s.heap := ⟨_, rfl⟩
  have hP : va_P g.1 vwCl (wM g h σ) H := by rw [hH]; exact hP
  have hS : va_S (AM g s.heap.size) s.heap H [] := by rw [hH]; exact hS
  refine wH hH ?_
  obtain ⟨locs, hlo⟩ : ∃ locs : List Loc, locs = [] := ⟨_, rfl⟩
  rw [← hlo] at hS
  refine wL hlo ?_
  unfold D_X12_greatest at hD
  refine lv_iconst (v := (0 : Int32)) C.1 C.2.1 dX12_greatest_0 (by decide) ?_
  refine lv_istore_n (lv' := [(1, .int (0 : Int32)), (0, .ref (g.2.2 31))]) C.1 C.2.1 dX12_greatest_1 rfl hl (by decide) rfl (fun ls hl => ?_)
  refine lv_iconst (v := (0 : Int32)) C.1 C.2.1 dX12_greatest_2 (by decide) ?_
  refine lv_istore_n (lv' := [(2, .int (0 : Int32)), (1, .int (0 : Int32)), (0, .ref (g.2.2 31))]) C.1 C.2.1 dX12_greatest_3 rfl hl (by decide) rfl (fun ls hl => ?_)
  exact w_L_X12_greatest_4 C hr N σ N (0 : Int32) (0 : Int32) H locs ls (lv_sub hl [2, 1, 0] rfl) hP hS hD
abbrev rm_X12_bestBy : Room := { frames := 4, cells := 0, slots := 0, locals := 98 }
set_option maxHeartbeats 4000000 in
set_option maxRecDepth 100000 in
theorem w_J_X12_bestBy_82 (C : CM g A p s m args meth c cX12_bestBy 6 RX12) (hr : meth.sig.returnType = some .int) (N : Nat) {h : Int64} {r : Int32} {u : St} (x2 : Int32) (x3 : Int32) : ∀ (σ : St) (H : Heap) (locs : List Loc) (ls : Array Slot), lv_has ls 6 [(0, .ref (g.2.2 31)), (2, .int x2), (3, .int x3)] → va_P g.1 vwCl (wM g h σ) H → va_S A s.heap H locs → J_X12_bestBy_82 N x2 x3 σ = some (r, u) → W p l e rm_X12_bestBy s m args below meth c H locs 0 0 (MQ below (QiM g h A r u) args s 0 0 A) (F0 m 82 ls []) := by
  intro σ H locs ls hl hP hS hD
  unfold J_X12_bestBy_82 at hD
  refine lv_aload_n C.1 C.2.1 dX12_bestBy_82 rfl (lv_at hl 0 rfl) ?_
  refine lv_iload_n C.1 C.2.1 dX12_bestBy_83 rfl (lv_at hl 1 rfl) ?_
  refine lv_iconst (v := (-1 : Int32)) C.1 C.2.1 dX12_bestBy_84 (by decide) ?_
  refine lv_icmp_ne (tgt := 92) C.1 C.2.1 dX12_bestBy_85 (by decide) (fun c2 => ?_) (fun c2 => ?_)
  · have hD := b_f c2 hD
    refine lv_iload_n C.1 C.2.1 dX12_bestBy_92 rfl (lv_at hl 2 rfl) ?_
    refine lv_iconst (v := (2 : Int32)) C.1 C.2.1 dX12_bestBy_93 (by decide) ?_
    refine lv_idiv C.1 C.2.1 dX12_bestBy_94 (by decide) ?_
    refine pf_X12_174_31 C hP hS dX12_bestBy_95 (fun H locs hP hS => ?_)
    refine lv_iload_n C.1 C.2.1 dX12_bestBy_98 rfl (lv_at hl 1 rfl) ?_
    cases hD
    exact ri_M C hr hP hS dX12_bestBy_99
  · have hD := b_t c2 hD
    refine lv_iconst (v := (0 : Int32)) C.1 C.2.1 dX12_bestBy_88 (by decide) ?_
    refine lv_goto (tgt := 95) C.1 C.2.1 dX12_bestBy_89 (by decide) ?_
    refine pf_X12_174_31 C hP hS dX12_bestBy_95 (fun H locs hP hS => ?_)
    refine lv_iload_n C.1 C.2.1 dX12_bestBy_98 rfl (lv_at hl 1 rfl) ?_
    cases hD
    exact ri_M C hr hP hS dX12_bestBy_99
set_option maxHeartbeats 4000000 in
set_option maxRecDepth 100000 in
theorem w_J_X12_bestBy_62 (C : CM g A p s m args meth c cX12_bestBy 6 RX12) (hr : meth.sig.returnType = some .int) (N : Nat) {h : Int64} {r : Int32} {u : St} (kc9 : Int32 → Int32 → Int32 → St → Option (Int32 × St)) (x1 : Int32) (x3 : Int32) (x4 : Int32) (x5 : Int32) (t0 : Int32) (hk9 : ∀ (x2 : Int32) (x3 : Int32) (x4 : Int32) (σ : St) (H : Heap) (locs : List Loc) (ls : Array Slot), lv_has ls 6 [(0, .ref (g.2.2 31)), (1, .int x1), (2, .int x2), (3, .int x3), (4, .int x4)] → va_P g.1 vwCl (wM g h σ) H → va_S A s.heap H locs → kc9 x2 x3 x4 σ = some (r, u) → W p l e rm_X12_bestBy s m args below meth c H locs 0 0 (MQ below (QiM g h A r u) args s 0 0 A) (F0 m 9 ls [])) : ∀ (σ : St) (H : Heap) (locs : List Loc) (ls : Array Slot), lv_has ls 6 [(0, .ref (g.2.2 31)), (1, .int x1), (3, .int x3), (4, .int x4), (5, .int x5)] → va_P g.1 vwCl (wM g h σ) H → va_S A s.heap H locs → J_X12_bestBy_62 N kc9 x1 x3 x4 x5 t0 σ = some (r, u) → W p l e rm_X12_bestBy s m args below meth c H locs 0 0 (MQ below (QiM g h A r u) args s 0 0 A) (F0 m 62 ls [.int t0]) := by
  intro σ H locs ls hl hP hS hD
  unfold J_X12_bestBy_62 at hD
  refine lv_istore_n (lv' := [(2, .int t0), (0, .ref (g.2.2 31)), (1, .int x1), (3, .int x3), (4, .int x4), (5, .int x5)]) C.1 C.2.1 dX12_bestBy_62 rfl hl (by decide) rfl (fun ls hl => ?_)
  refine lv_iload C.1 C.2.1 dX12_bestBy_63 (lv_at hl 5 rfl) ?_
  refine lv_iload_n C.1 C.2.1 dX12_bestBy_65 rfl (lv_at hl 3 rfl) ?_
  refine lv_icmp_ge (tgt := 74) C.1 C.2.1 dX12_bestBy_66 (by decide) (fun c10 => ?_) (fun c10 => ?_)
  · have hD := b_t c10 hD
    refine lv_iload_n C.1 C.2.1 dX12_bestBy_74 rfl (lv_at hl 3 rfl) ?_
    refine lv_istore_n (lv' := [(3, .int x3), (2, .int t0), (0, .ref (g.2.2 31)), (1, .int x1), (4, .int x4), (5, .int x5)]) C.1 C.2.1 dX12_bestBy_75 rfl hl (by decide) rfl (fun ls hl => ?_)
    refine lv_iinc (v := x4 + (1 : Int32)) (lv' := [(4, .int (x4 + (1 : Int32))), (3, .int x3), (2, .int t0), (0, .ref (g.2.2 31)), (1, .int x1), (5, .int x5)]) C.1 C.2.1 dX12_bestBy_76 hl (k := 4) rfl rfl (by decide) rfl (fun ls hl => ?_)
    refine lv_goto (tgt := 9) C.1 C.2.1 dX12_bestBy_79 (by decide) ?_
    exact hk9 t0 x3 (x4 + (1 : Int32)) σ H locs ls (lv_sub hl [3, 4, 2, 1, 0] rfl) hP hS hD
  · have hD := b_f c10 hD
    refine lv_iload C.1 C.2.1 dX12_bestBy_69 (lv_at hl 5 rfl) ?_
    refine lv_goto (tgt := 75) C.1 C.2.1 dX12_bestBy_71 (by decide) ?_
    refine lv_istore_n (lv' := [(3, .int x5), (2, .int t0), (0, .ref (g.2.2 31)), (1, .int x1), (4, .int x4), (5, .int x5)]) C.1 C.2.1 dX12_bestBy_75 rfl hl (by decide) rfl (fun ls hl => ?_)
    refine lv_iinc (v := x4 + (1 : Int32)) (lv' := [(4, .int (x4 + (1 : Int32))), (3, .int x5), (2, .int t0), (0, .ref (g.2.2 31)), (1, .int x1), (5, .int x5)]) C.1 C.2.1 dX12_bestBy_76 hl (k := 4) rfl rfl (by decide) rfl (fun ls hl => ?_)
    refine lv_goto (tgt := 9) C.1 C.2.1 dX12_bestBy_79 (by decide) ?_
    exact hk9 t0 x5 (x4 + (1 : Int32)) σ H locs ls (lv_sub hl [3, 4, 2, 1, 0] rfl) hP hS hD
set_option maxHeartbeats 4000000 in
set_option maxRecDepth 100000 in
theorem w_L_X12_bestBy_9 (C : CM g A p s m args meth c cX12_bestBy 6 RX12) (hr : meth.sig.returnType = some .int) (N : Nat) {h : Int64} {r : Int32} {u : St} (x1 : Int32) : ∀ (n : Nat) (x2 : Int32) (x3 : Int32) (x4 : Int32) (σ : St) (H : Heap) (locs : List Loc) (ls : Array Slot), lv_has ls 6 [(0, .ref (g.2.2 31)), (1, .int x1), (2, .int x2), (3, .int x3), (4, .int x4)] → va_P g.1 vwCl (wM g h σ) H → va_S A s.heap H locs → L_X12_bestBy_9 N x1 n x2 x3 x4 σ = some (r, u) → W p l e rm_X12_bestBy s m args below meth c H locs 0 0 (MQ below (QiM g h A r u) args s 0 0 A) (F0 m 9 ls []) := by
  intro n
  induction n with
  | zero =>
    intro x2 x3 x4 σ H locs ls hl hP hS hD
    rw [L_X12_bestBy_9] at hD
    cases hD
  | succ n ih =>
    intro x2 x3 x4 σ H locs ls hl hP hS hD
    rw [L_X12_bestBy_9] at hD
    refine lv_iload C.1 C.2.1 dX12_bestBy_9 (lv_at hl 4 rfl) ?_
    refine lv_aload_n C.1 C.2.1 dX12_bestBy_11 rfl (lv_at hl 0 rfl) ?_
    refine gf_X12_90_31 C hP dX12_bestBy_12 ?_
    refine lv_icmp_ge (tgt := 82) C.1 C.2.1 dX12_bestBy_15 (by decide) (fun c1 => ?_) (fun c1 => ?_)
    · have hD := b_t c1 hD
      exact w_J_X12_bestBy_82 C hr N x2 x3 σ H locs ls (lv_sub hl [0, 2, 3] rfl) hP hS hD
    · have hD := b_f c1 hD
      refine lv_aload_n C.1 C.2.1 dX12_bestBy_18 rfl (lv_at hl 0 rfl) ?_
      obtain ⟨r4, hd4, hD⟩ := bp_some hD
      refine kVi_M (As := []) (rest := []) (ci := 12) (q0 := 0) C (c_X12_fitMany l g H.size N σ hd4) kw_X12_126 ⟨rfl, rfl⟩ ⟨Nat.le_of_ble_eq_true rfl, Nat.le_of_ble_eq_true rfl⟩ kv_X12_fitMany rfl rfl rfl hl.1 (Nat.le_of_ble_eq_true rfl) ⟨Nat.zero_le _, Nat.zero_le _⟩ dX12_bestBy_19 hP hS rfl (fun H locs hP hS => ?_)
      refine lv_if_le (tgt := 82) C.1 C.2.1 dX12_bestBy_22 (by decide) (fun c5 => ?_) (fun c5 => ?_)
      · have hD := b_t c5 hD
        exact w_J_X12_bestBy_82 C hr N x2 x3 σ H locs ls (lv_sub hl [0, 2, 3] rfl) hP hS hD
      · have hD := b_f c5 hD
        refine lv_aload_n C.1 C.2.1 dX12_bestBy_25 rfl (lv_at hl 0 rfl) ?_
        refine lv_iload_n C.1 C.2.1 dX12_bestBy_26 rfl (lv_at hl 1 rfl) ?_
        refine lv_iload C.1 C.2.1 dX12_bestBy_27 (lv_at hl 4 rfl) ?_
        obtain ⟨s6, hd6, hD⟩ := bp_some hD
        refine kVv_M (As := [.int x1, .int x4]) (rest := []) (ci := 12) (q0 := 0) C (c_X12_laySizes l g H.size N σ x1 x4 hd6) kw_X12_167 ⟨rfl, rfl⟩ ⟨Nat.le_of_ble_eq_true rfl, Nat.le_of_ble_eq_true rfl⟩ kv_X12_laySizes rfl rfl rfl hl.1 (Nat.le_of_ble_eq_true rfl) ⟨Nat.zero_le _, Nat.zero_le _⟩ dX12_bestBy_29 hP hS rfl (fun H locs hP hS => ?_)
        refine lv_iconst (v := (2 : Int32)) C.1 C.2.1 dX12_bestBy_32 (by decide) ?_
        refine lv_aload_n C.1 C.2.1 dX12_bestBy_33 rfl (lv_at hl 0 rfl) ?_
        obtain ⟨r7, hd7, hD⟩ := bp_some hD
        refine kVi_M (As := []) (rest := [.int (2 : Int32)]) (ci := 12) (q0 := 0) C (c_X12_greatest l g H.size N s6 hd7) kw_X12_171 ⟨rfl, rfl⟩ ⟨Nat.le_of_ble_eq_true rfl, Nat.le_of_ble_eq_true rfl⟩ kv_X12_greatest rfl rfl rfl hl.1 (Nat.le_of_ble_eq_true rfl) ⟨Nat.zero_le _, Nat.zero_le _⟩ dX12_bestBy_34 hP hS rfl (fun H locs hP hS => ?_)
        refine lv_imul C.1 C.2.1 dX12_bestBy_37 ?_
        refine lv_iconst (v := (1 : Int32)) C.1 C.2.1 dX12_bestBy_38 (by decide) ?_
        refine lv_iadd C.1 C.2.1 dX12_bestBy_39 ?_
        refine lv_aload_n C.1 C.2.1 dX12_bestBy_40 rfl (lv_at hl 0 rfl) ?_
        refine gf_X12_19_31 C hP dX12_bestBy_41 ?_
        refine lv_iload C.1 C.2.1 dX12_bestBy_44 (lv_at hl 4 rfl) ?_
        obtain ⟨hi8, hD⟩ := gi_some hD
        refine iaM C hP 4 rfl hi8 dX12_bestBy_46 ?_
        refine lv_isub C.1 C.2.1 dX12_bestBy_47 ?_
        refine lv_istore (lv' := [(5, .int ((((2 : Int32) * r7) + (1 : Int32)) - (s6 35 x4.toNatClampNeg))), (0, .ref (g.2.2 31)), (1, .int x1), (2, .int x2), (3, .int x3), (4, .int x4)]) C.1 C.2.1 dX12_bestBy_48 hl (by decide) rfl (fun ls hl => ?_)
        refine lv_iload C.1 C.2.1 dX12_bestBy_50 (lv_at hl 0 rfl) ?_
        refine lv_iload_n C.1 C.2.1 dX12_bestBy_52 rfl (lv_at hl 4 rfl) ?_
        refine lv_icmp_ge (tgt := 61) C.1 C.2.1 dX12_bestBy_53 (by decide) (fun c9 => ?_) (fun c9 => ?_)
        · have hD := b_t c9 hD
          refine lv_iload_n C.1 C.2.1 dX12_bestBy_61 rfl (lv_at hl 3 rfl) ?_
          exact w_J_X12_bestBy_62 C hr N (L_X12_bestBy_9 N x1 n) x1 x3 x4 ((((2 : Int32) * r7) + (1 : Int32)) - (s6 35 x4.toNatClampNeg)) x2 ih s6 H locs ls (lv_sub hl [1, 2, 4, 5, 0] rfl) hP hS hD
        · have hD := b_f c9 hD
          refine lv_iload C.1 C.2.1 dX12_bestBy_56 (lv_at hl 5 rfl) ?_
          refine lv_goto (tgt := 62) C.1 C.2.1 dX12_bestBy_58 (by decide) ?_
          exact w_J_X12_bestBy_62 C hr N (L_X12_bestBy_9 N x1 n) x1 x3 x4 ((((2 : Int32) * r7) + (1 : Int32)) - (s6 35 x4.toNatClampNeg)) x4 ih s6 H locs ls (lv_sub hl [1, 2, 4, 5, 0] rfl) hP hS hD
set_option maxHeartbeats 4000000 in
set_option maxRecDepth 100000 in
theorem c_X12_bestBy (l : Launch) (g : Gx) (sz : Nat) (N : Nat) (σ : St) (x1 : Int32) {h : Int64} {r : Int32} {u : St} (hD : D_X12_bestBy N σ x1 = some (r, u)) : Met l yX12_bestBy (Cond.code yX12_bestBy cX12_bestBy 6 (some .int) :: tb) rm_X12_bestBy (PcM g h [.ref (g.2.2 31), .int x1] σ sz) (QiM g h (AM g sz) r u) 0 0 (AM g sz) := by
  refine Met.ofW (cc := cX12_bestBy) (maxL := 6) (ret := some .int) (by decide) rfl ?_
  intro p e s m args below meth c s₁ B hml hv
  have hv0 := hv
  obtain ⟨rfl, hsz, hP, -⟩ := hv
  subst hsz
  have C : CM g (AM g s.heap.size) p s m _ meth c cX12_bestBy 6 RX12 := CM.of B hml (fun w h => List.mem_cons_of_mem _ h) rfl hv0
  have hr := B.returns
  have hS : va_S (AM g s.heap.size) s.heap s.heap [] := va_S.rf
  have hl := lv_entry ([.ref (g.2.2 31), .int x1]) (n := 6) (Nat.le_of_ble_eq_true rfl)
  rw [lg_entry_eq]
  generalize (lg_sl ([.ref (g.2.2 31), .int x1]) ++ List.replicate (6 - (lg_sl ([.ref (g.2.2 31), .int x1])).length) Slot.unset).toArray = ls at hl ⊢
  have hl : lv_has ls 6 [(0, .ref (g.2.2 31)), (1, .int x1)] := hl
  obtain ⟨H, hH⟩ : ∃ H, H = s.heap := ⟨_, rfl⟩
  have hP : va_P g.1 vwCl (wM g h σ) H := by rw [hH]; exact hP
  have hS : va_S (AM g s.heap.size) s.heap H [] := by rw [hH]; exact hS
  refine wH hH ?_
  obtain ⟨locs, hlo⟩ : ∃ locs : List Loc, locs = [] := ⟨_, rfl⟩
  rw [← hlo] at hS
  refine wL hlo ?_
  unfold D_X12_bestBy at hD
  refine lv_iconst (v := (-1 : Int32)) C.1 C.2.1 dX12_bestBy_0 (by decide) ?_
  refine lv_istore_n (lv' := [(2, .int (-1 : Int32)), (0, .ref (g.2.2 31)), (1, .int x1)]) C.1 C.2.1 dX12_bestBy_1 rfl hl (by decide) rfl (fun ls hl => ?_)
  refine lv_sipush (v := (1000 : Int32)) C.1 C.2.1 dX12_bestBy_2 (by decide) ?_
  refine lv_istore_n (lv' := [(3, .int (1000 : Int32)), (2, .int (-1 : Int32)), (0, .ref (g.2.2 31)), (1, .int x1)]) C.1 C.2.1 dX12_bestBy_5 rfl hl (by decide) rfl (fun ls hl => ?_)
  refine lv_iconst (v := (0 : Int32)) C.1 C.2.1 dX12_bestBy_6 (by decide) ?_
  refine lv_istore (lv' := [(4, .int (0 : Int32)), (3, .int (1000 : Int32)), (2, .int (-1 : Int32)), (0, .ref (g.2.2 31)), (1, .int x1)]) C.1 C.2.1 dX12_bestBy_7 hl (by decide) rfl (fun ls hl => ?_)
  exact w_L_X12_bestBy_9 C hr N x1 N (-1 : Int32) (1000 : Int32) (0 : Int32) σ H locs ls (lv_sub hl [3, 4, 2, 1, 0] rfl) hP hS hD
abbrev rm_X12_best : Room := { frames := 5, cells := 0, slots := 0, locals := 123 }
set_option maxHeartbeats 4000000 in
set_option maxRecDepth 100000 in
theorem c_X12_best (l : Launch) (g : Gx) (sz : Nat) (N : Nat) (σ : St) (x1 : Int32) (x2 : Int32) {h : Int64} {r : Int32} {u : St} (hD : D_X12_best N σ x1 x2 = some (r, u)) : Met l yX12_best (Cond.code yX12_best cX12_best 4 (some .int) :: tb) rm_X12_best (PcM g h [.ref (g.2.2 31), .int x1, .int x2] σ sz) (QiM g h (AM g sz) r u) 0 0 (AM g sz) := by
  refine Met.ofW (cc := cX12_best) (maxL := 4) (ret := some .int) (by decide) rfl ?_
  intro p e s m args below meth c s₁ B hml hv
  have hv0 := hv
  obtain ⟨rfl, hsz, hP, -⟩ := hv
  subst hsz
  have C : CM g (AM g s.heap.size) p s m _ meth c cX12_best 4 RX12 := CM.of B hml (fun w h => List.mem_cons_of_mem _ h) rfl hv0
  have hr := B.returns
  have hS : va_S (AM g s.heap.size) s.heap s.heap [] := va_S.rf
  have hl := lv_entry ([.ref (g.2.2 31), .int x1, .int x2]) (n := 4) (Nat.le_of_ble_eq_true rfl)
  rw [lg_entry_eq]
  generalize (lg_sl ([.ref (g.2.2 31), .int x1, .int x2]) ++ List.replicate (4 - (lg_sl ([.ref (g.2.2 31), .int x1, .int x2])).length) Slot.unset).toArray = ls at hl ⊢
  have hl : lv_has ls 4 [(0, .ref (g.2.2 31)), (1, .int x1), (2, .int x2)] := hl
  obtain ⟨H, hH⟩ : ∃ H, H = s.heap := ⟨_, rfl⟩
  have hP : va_P g.1 vwCl (wM g h σ) H := by rw [hH]; exact hP
  have hS : va_S (AM g s.heap.size) s.heap H [] := by rw [hH]; exact hS
  refine wH hH ?_
  obtain ⟨locs, hlo⟩ : ∃ locs : List Loc, locs = [] := ⟨_, rfl⟩
  rw [← hlo] at hS
  refine wL hlo ?_
  unfold D_X12_best at hD
  refine lv_aload_n C.1 C.2.1 dX12_best_0 rfl (lv_at hl 0 rfl) ?_
  refine lv_iload_n C.1 C.2.1 dX12_best_1 rfl (lv_at hl 1 rfl) ?_
  obtain ⟨r1, hd1, hD⟩ := bp_some hD
  refine kVi_M (As := [.int x1]) (rest := []) (ci := 12) (q0 := 0) C (c_X12_isJudge l g H.size σ x1 hd1) kw_X12_110 ⟨rfl, rfl⟩ ⟨Nat.le_of_ble_eq_true rfl, Nat.le_of_ble_eq_true rfl⟩ kv_X12_isJudge rfl rfl rfl hl.1 (Nat.le_of_ble_eq_true rfl) ⟨Nat.zero_le _, Nat.zero_le _⟩ dX12_best_2 hP hS rfl (fun H locs hP hS => ?_)
  refine lv_if_ne (tgt := 11) C.1 C.2.1 dX12_best_5 (by decide) (fun c2 => ?_) (fun c2 => ?_)
  · have hD := b_f c2 hD
    refine lv_iload_n C.1 C.2.1 dX12_best_11 rfl (lv_at hl 2 rfl) ?_
    refine lv_i2l C.1 C.2.1 dX12_best_12 rfl ?_
    refine lv_lconst (v := (0 : Int64)) C.1 C.2.1 dX12_best_13 (by decide) ?_
    refine lv_lconst (v := (1 : Int64)) C.1 C.2.1 dX12_best_14 (by decide) ?_
    obtain ⟨r3, hd3, hD⟩ := bp_some hD
    refine kSi_M (As := [.long x2.toInt64, .long (0 : Int64), .long (1 : Int64)]) (rest := []) C (c_X12_in l g H.size σ x2.toInt64 (0 : Int64) (1 : Int64) hd3) kw_X12_46 ⟨rfl, rfl⟩ ⟨Nat.le_of_ble_eq_true rfl, Nat.le_of_ble_eq_true rfl⟩ ks_X12_in rfl hl.1 (Nat.le_of_ble_eq_true rfl) ⟨Nat.zero_le _, Nat.zero_le _⟩ dX12_best_15 hP hS rfl (fun H locs hP hS => ?_)
    refine lv_if_ne (tgt := 24) C.1 C.2.1 dX12_best_18 (by decide) (fun c4 => ?_) (fun c4 => ?_)
    · have hD := b_f c4 hD
      refine lv_aload_n C.1 C.2.1 dX12_best_24 rfl (lv_at hl 0 rfl) ?_
      refine gf_X12_177_31 C hP dX12_best_25 ?_
      refine lv_bipush (v := (24 : Int32)) C.1 C.2.1 dX12_best_28 (by decide) ?_
      refine lv_icmp_ne (tgt := 36) C.1 C.2.1 dX12_best_30 (by decide) (fun c5 => ?_) (fun c5 => ?_)
      · have hD := b_f c5 hD
        refine lv_aload_n C.1 C.2.1 dX12_best_36 rfl (lv_at hl 0 rfl) ?_
        refine lv_dup C.1 C.2.1 dX12_best_37 rfl ?_
        refine gf_X12_177_31 C hP dX12_best_38 ?_
        refine lv_iconst (v := (1 : Int32)) C.1 C.2.1 dX12_best_41 (by decide) ?_
        refine lv_iadd C.1 C.2.1 dX12_best_42 ?_
        refine pf_X12_177_31 C hP hS dX12_best_43 (fun H locs hP hS => ?_)
        refine lv_aload_n C.1 C.2.1 dX12_best_46 rfl (lv_at hl 0 rfl) ?_
        obtain ⟨s6, hd6, hD⟩ := bp_some hD
        refine kVv_M (As := []) (rest := []) (ci := 12) (q0 := 0) C (c_X12_layFit l g H.size N (pt σ 31 15 ((σ 31 15) + (1 : Int32))) hd6) kw_X12_123 ⟨rfl, rfl⟩ ⟨Nat.le_of_ble_eq_true rfl, Nat.le_of_ble_eq_true rfl⟩ kv_X12_layFit rfl rfl rfl hl.1 (Nat.le_of_ble_eq_true rfl) ⟨Nat.zero_le _, Nat.zero_le _⟩ dX12_best_47 hP hS rfl (fun H locs hP hS => ?_)
        refine lv_aload_n C.1 C.2.1 dX12_best_50 rfl (lv_at hl 0 rfl) ?_
        refine lv_aload_n C.1 C.2.1 dX12_best_51 rfl (lv_at hl 0 rfl) ?_
        refine gf_X12_13_31 C hP dX12_best_52 ?_
        refine lv_iload_n C.1 C.2.1 dX12_best_55 rfl (lv_at hl 1 rfl) ?_
        obtain ⟨hi7, hD⟩ := gi_some hD
        refine iaM C hP 2 rfl hi7 dX12_best_56 ?_
        obtain ⟨r8, s8, hd8, hD⟩ := bs_some hD
        refine kVi_M (As := [.int (s6 33 x1.toNatClampNeg)]) (rest := []) (ci := 12) (q0 := 0) C (c_X12_bestBy l g H.size N s6 (s6 33 x1.toNatClampNeg) hd8) kw_X12_180 ⟨rfl, rfl⟩ ⟨Nat.le_of_ble_eq_true rfl, Nat.le_of_ble_eq_true rfl⟩ kv_X12_bestBy rfl rfl rfl hl.1 (Nat.le_of_ble_eq_true rfl) ⟨Nat.zero_le _, Nat.zero_le _⟩ dX12_best_57 hP hS rfl (fun H locs hP hS => ?_)
        refine lv_istore_n (lv' := [(3, .int r8), (0, .ref (g.2.2 31)), (1, .int x1), (2, .int x2)]) C.1 C.2.1 dX12_best_60 rfl hl (by decide) rfl (fun ls hl => ?_)
        refine lv_iload_n C.1 C.2.1 dX12_best_61 rfl (lv_at hl 3 rfl) ?_
        refine lv_if_ne (tgt := 69) C.1 C.2.1 dX12_best_62 (by decide) (fun c9 => ?_) (fun c9 => ?_)
        · have hD := b_f c9 hD
          refine lv_aload_n C.1 C.2.1 dX12_best_69 rfl (lv_at hl 1 rfl) ?_
          refine gf_X12_174_31 C hP dX12_best_70 ?_
          cases hD
          exact ri_M C hr hP hS dX12_best_73
        · have hD := b_t c9 hD
          refine lv_iload_n C.1 C.2.1 dX12_best_65 rfl (lv_at hl 0 rfl) ?_
          refine lv_goto (tgt := 73) C.1 C.2.1 dX12_best_66 (by decide) ?_
          cases hD
          exact ri_M C hr hP hS dX12_best_73
      · have hD := b_t c5 hD
        refine lv_bipush (v := (-103 : Int32)) C.1 C.2.1 dX12_best_33 (by decide) ?_
        cases hD
        exact ri_M C hr hP hS dX12_best_35
    · have hD := b_t c4 hD
      refine lv_bipush (v := (-102 : Int32)) C.1 C.2.1 dX12_best_21 (by decide) ?_
      cases hD
      exact ri_M C hr hP hS dX12_best_23
  · have hD := b_t c2 hD
    refine lv_bipush (v := (-101 : Int32)) C.1 C.2.1 dX12_best_8 (by decide) ?_
    cases hD
    exact ri_M C hr hP hS dX12_best_10
abbrev rm_X12_blank : Room := { frames := 0, cells := 0, slots := 0, locals := 0 }
set_option maxHeartbeats 4000000 in
set_option maxRecDepth 100000 in
theorem c_X12_blank (l : Launch) (g : Gx) (sz : Nat) (σ : St) {h : Int64} {r : Int32} {u : St} (hD : D_X12_blank σ = some (r, u)) : Met l yX12_blank (Cond.code yX12_blank cX12_blank 2 (some .int) :: tb) rm_X12_blank (PcM g h [.ref (g.2.2 31)] σ sz) (QiM g h (AM g sz) r u) 0 0 (AM g sz) := by
  refine Met.ofW (cc := cX12_blank) (maxL := 2) (ret := some .int) (by decide) rfl ?_
  intro p e s m args below meth c s₁ B hml hv
  have hv0 := hv
  obtain ⟨rfl, hsz, hP, -⟩ := hv
  subst hsz
  have C : CM g (AM g s.heap.size) p s m _ meth c cX12_blank 2 RX12 := CM.of B hml (fun w h => List.mem_cons_of_mem _ h) rfl hv0
  have hr := B.returns
  have hS : va_S (AM g s.heap.size) s.heap s.heap [] := va_S.rf
  have hl := lv_entry ([.ref (g.2.2 31)]) (n := 2) (Nat.le_of_ble_eq_true rfl)
  rw [lg_entry_eq]
  generalize (lg_sl ([.ref (g.2.2 31)]) ++ List.replicate (2 - (lg_sl ([.ref (g.2.2 31)])).length) Slot.unset).toArray = ls at hl ⊢
  have hl : lv_has ls 2 [(0, .ref (g.2.2 31))] := hl
  obtain ⟨H, hH⟩ : ∃ H, H = s.heap := ⟨_, rfl⟩
  have hP : va_P g.1 vwCl (wM g h σ) H := by rw [hH]; exact hP
  have hS : va_S (AM g s.heap.size) s.heap H [] := by rw [hH]; exact hS
  refine wH hH ?_
  obtain ⟨locs, hlo⟩ : ∃ locs : List Loc, locs = [] := ⟨_, rfl⟩
  rw [← hlo] at hS
  refine wL hlo ?_
  unfold D_X12_blank at hD
  refine lv_aload_n C.1 C.2.1 dX12_blank_0 rfl (lv_at hl 0 rfl) ?_
  refine gf_X12_50_31 C hP dX12_blank_1 ?_
  refine lv_istore_n (lv' := [(1, .int (σ 31 1)), (0, .ref (g.2.2 31))]) C.1 C.2.1 dX12_blank_4 rfl hl (by decide) rfl (fun ls hl => ?_)
  refine lv_aload_n C.1 C.2.1 dX12_blank_5 rfl (lv_at hl 1 rfl) ?_
  refine lv_iconst (v := (0 : Int32)) C.1 C.2.1 dX12_blank_6 (by decide) ?_
  refine pf_X12_50_31 C hP hS dX12_blank_7 (fun H locs hP hS => ?_)
  refine lv_iload_n C.1 C.2.1 dX12_blank_10 rfl (lv_at hl 0 rfl) ?_
  cases hD
  exact ri_M C hr hP hS dX12_blank_11
abbrev rm_X12_copy_k1 : Room := { frames := 0, cells := 0, slots := 0, locals := 0 }
set_option maxHeartbeats 4000000 in
set_option maxRecDepth 100000 in
theorem w_L_X12_copy_k1_2 (C : CM g A p s m args meth c cX12_copy 3 RX12) (hr : meth.sig.returnType = none) (N : Nat) {h : Int64} {u : St} : ∀ (n : Nat) (x2 : Int32) (σ : St) (H : Heap) (locs : List Loc) (ls : Array Slot), lv_has ls 3 [(0, .ref (g.2.2 33)), (1, .ref (g.2.2 39)), (2, .int x2)] → va_P g.1 vwCl (wM g h σ) H → va_S A s.heap H locs → L_X12_copy_k1_2 N n x2 σ = some u → W p l e rm_X12_copy_k1 s m args below meth c H locs 0 0 (MQ below (QvM g h A u) args s 0 0 A) (F0 m 2 ls []) := by
  intro n
  induction n with
  | zero =>
    intro x2 σ H locs ls hl hP hS hD
    rw [L_X12_copy_k1_2] at hD
    cases hD
  | succ n ih =>
    intro x2 σ H locs ls hl hP hS hD
    rw [L_X12_copy_k1_2] at hD
    refine lv_iload_n C.1 C.2.1 dX12_copy_2 rfl (lv_at hl 2 rfl) ?_
    refine lv_aload_n C.1 C.2.1 dX12_copy_3 rfl (lv_at hl 0 rfl) ?_
    refine alM C hP 2 (v := (3 : Int32)) rfl (by decide) dX12_copy_4 ?_
    refine lv_icmp_ge (tgt := 20) C.1 C.2.1 dX12_copy_5 (by decide) (fun c1 => ?_) (fun c1 => ?_)
    · have hD := b_t c1 hD
      cases hD
      exact rv_M C hr hP hS dX12_copy_20
    · have hD := b_f c1 hD
      refine lv_aload_n C.1 C.2.1 dX12_copy_8 rfl (lv_at hl 1 rfl) ?_
      refine lv_iload_n C.1 C.2.1 dX12_copy_9 rfl (lv_at hl 2 rfl) ?_
      refine lv_aload_n C.1 C.2.1 dX12_copy_10 rfl (lv_at hl 0 rfl) ?_
      refine lv_iload_n C.1 C.2.1 dX12_copy_11 rfl (lv_at hl 2 rfl) ?_
      obtain ⟨hi2, hD⟩ := gi_some hD
      refine iaM C hP 2 rfl hi2 dX12_copy_12 ?_
      obtain ⟨hi3, hD⟩ := gi_some hD
      refine isM C hP hS 8 rfl hi3 dX12_copy_13 st_39 (fun H locs hP hS => ?_)
      refine lv_iinc (v := x2 + (1 : Int32)) (lv' := [(2, .int (x2 + (1 : Int32))), (0, .ref (g.2.2 33)), (1, .ref (g.2.2 39))]) C.1 C.2.1 dX12_copy_14 hl (k := 2) rfl rfl (by decide) rfl (fun ls hl => ?_)
      refine lv_goto (tgt := 2) C.1 C.2.1 dX12_copy_17 (by decide) ?_
      exact ih (x2 + (1 : Int32)) (pt σ 39 x2.toNatClampNeg (σ 33 x2.toNatClampNeg)) H locs ls (lv_sub hl [1, 2, 0] rfl) hP hS hD
set_option maxHeartbeats 4000000 in
set_option maxRecDepth 100000 in
theorem c_X12_copy_k1 (l : Launch) (g : Gx) (sz : Nat) (N : Nat) (σ : St) {h : Int64} {u : St} (hD : D_X12_copy_k1 N σ = some u) : Met l yX12_copy (Cond.code yX12_copy cX12_copy 3 (none) :: tb) rm_X12_copy_k1 (PcM g h [.ref (g.2.2 33), .ref (g.2.2 39)] σ sz) (QvM g h (AM g sz) u) 0 0 (AM g sz) := by
  refine Met.ofW (cc := cX12_copy) (maxL := 3) (ret := none) (by decide) rfl ?_
  intro p e s m args below meth c s₁ B hml hv
  have hv0 := hv
  obtain ⟨rfl, hsz, hP, -⟩ := hv
  subst hsz
  have C : CM g (AM g s.heap.size) p s m _ meth c cX12_copy 3 RX12 := CM.of B hml (fun w h => List.mem_cons_of_mem _ h) rfl hv0
  have hr := B.returns
  have hS : va_S (AM g s.heap.size) s.heap s.heap [] := va_S.rf
  have hl := lv_entry ([.ref (g.2.2 33), .ref (g.2.2 39)]) (n := 3) (Nat.le_of_ble_eq_true rfl)
  rw [lg_entry_eq]
  generalize (lg_sl ([.ref (g.2.2 33), .ref (g.2.2 39)]) ++ List.replicate (3 - (lg_sl ([.ref (g.2.2 33), .ref (g.2.2 39)])).length) Slot.unset).toArray = ls at hl ⊢
  have hl : lv_has ls 3 [(0, .ref (g.2.2 33)), (1, .ref (g.2.2 39))] := hl
  obtain ⟨H, hH⟩ : ∃ H, H = s.heap := ⟨_, rfl⟩
  have hP : va_P g.1 vwCl (wM g h σ) H := by rw [hH]; exact hP
  have hS : va_S (AM g s.heap.size) s.heap H [] := by rw [hH]; exact hS
  refine wH hH ?_
  obtain ⟨locs, hlo⟩ : ∃ locs : List Loc, locs = [] := ⟨_, rfl⟩
  rw [← hlo] at hS
  refine wL hlo ?_
  unfold D_X12_copy_k1 at hD
  refine lv_iconst (v := (0 : Int32)) C.1 C.2.1 dX12_copy_0 (by decide) ?_
  refine lv_istore_n (lv' := [(2, .int (0 : Int32)), (0, .ref (g.2.2 33)), (1, .ref (g.2.2 39))]) C.1 C.2.1 dX12_copy_1 rfl hl (by decide) rfl (fun ls hl => ?_)
  exact w_L_X12_copy_k1_2 C hr N N (0 : Int32) σ H locs ls (lv_sub hl [1, 2, 0] rfl) hP hS hD
abbrev rm_X12_copy_k2 : Room := { frames := 0, cells := 0, slots := 0, locals := 0 }
set_option maxHeartbeats 4000000 in
set_option maxRecDepth 100000 in
theorem w_L_X12_copy_k2_2 (C : CM g A p s m args meth c cX12_copy 3 RX12) (hr : meth.sig.returnType = none) (N : Nat) {h : Int64} {u : St} : ∀ (n : Nat) (x2 : Int32) (σ : St) (H : Heap) (locs : List Loc) (ls : Array Slot), lv_has ls 3 [(0, .ref (g.2.2 39)), (1, .ref (g.2.2 33)), (2, .int x2)] → va_P g.1 vwCl (wM g h σ) H → va_S A s.heap H locs → L_X12_copy_k2_2 N n x2 σ = some u → W p l e rm_X12_copy_k2 s m args below meth c H locs 0 0 (MQ below (QvM g h A u) args s 0 0 A) (F0 m 2 ls []) := by
  intro n
  induction n with
  | zero =>
    intro x2 σ H locs ls hl hP hS hD
    rw [L_X12_copy_k2_2] at hD
    cases hD
  | succ n ih =>
    intro x2 σ H locs ls hl hP hS hD
    rw [L_X12_copy_k2_2] at hD
    refine lv_iload_n C.1 C.2.1 dX12_copy_2 rfl (lv_at hl 2 rfl) ?_
    refine lv_aload_n C.1 C.2.1 dX12_copy_3 rfl (lv_at hl 0 rfl) ?_
    refine alM C hP 8 (v := (3 : Int32)) rfl (by decide) dX12_copy_4 ?_
    refine lv_icmp_ge (tgt := 20) C.1 C.2.1 dX12_copy_5 (by decide) (fun c1 => ?_) (fun c1 => ?_)
    · have hD := b_t c1 hD
      cases hD
      exact rv_M C hr hP hS dX12_copy_20
    · have hD := b_f c1 hD
      refine lv_aload_n C.1 C.2.1 dX12_copy_8 rfl (lv_at hl 1 rfl) ?_
      refine lv_iload_n C.1 C.2.1 dX12_copy_9 rfl (lv_at hl 2 rfl) ?_
      refine lv_aload_n C.1 C.2.1 dX12_copy_10 rfl (lv_at hl 0 rfl) ?_
      refine lv_iload_n C.1 C.2.1 dX12_copy_11 rfl (lv_at hl 2 rfl) ?_
      obtain ⟨hi2, hD⟩ := gi_some hD
      refine iaM C hP 8 rfl hi2 dX12_copy_12 ?_
      obtain ⟨hi3, hD⟩ := gi_some hD
      refine isM C hP hS 2 rfl hi3 dX12_copy_13 st_33 (fun H locs hP hS => ?_)
      refine lv_iinc (v := x2 + (1 : Int32)) (lv' := [(2, .int (x2 + (1 : Int32))), (0, .ref (g.2.2 39)), (1, .ref (g.2.2 33))]) C.1 C.2.1 dX12_copy_14 hl (k := 2) rfl rfl (by decide) rfl (fun ls hl => ?_)
      refine lv_goto (tgt := 2) C.1 C.2.1 dX12_copy_17 (by decide) ?_
      exact ih (x2 + (1 : Int32)) (pt σ 33 x2.toNatClampNeg (σ 39 x2.toNatClampNeg)) H locs ls (lv_sub hl [1, 2, 0] rfl) hP hS hD
set_option maxHeartbeats 4000000 in
set_option maxRecDepth 100000 in
theorem c_X12_copy_k2 (l : Launch) (g : Gx) (sz : Nat) (N : Nat) (σ : St) {h : Int64} {u : St} (hD : D_X12_copy_k2 N σ = some u) : Met l yX12_copy (Cond.code yX12_copy cX12_copy 3 (none) :: tb) rm_X12_copy_k2 (PcM g h [.ref (g.2.2 39), .ref (g.2.2 33)] σ sz) (QvM g h (AM g sz) u) 0 0 (AM g sz) := by
  refine Met.ofW (cc := cX12_copy) (maxL := 3) (ret := none) (by decide) rfl ?_
  intro p e s m args below meth c s₁ B hml hv
  have hv0 := hv
  obtain ⟨rfl, hsz, hP, -⟩ := hv
  subst hsz
  have C : CM g (AM g s.heap.size) p s m _ meth c cX12_copy 3 RX12 := CM.of B hml (fun w h => List.mem_cons_of_mem _ h) rfl hv0
  have hr := B.returns
  have hS : va_S (AM g s.heap.size) s.heap s.heap [] := va_S.rf
  have hl := lv_entry ([.ref (g.2.2 39), .ref (g.2.2 33)]) (n := 3) (Nat.le_of_ble_eq_true rfl)
  rw [lg_entry_eq]
  generalize (lg_sl ([.ref (g.2.2 39), .ref (g.2.2 33)]) ++ List.replicate (3 - (lg_sl ([.ref (g.2.2 39), .ref (g.2.2 33)])).length) Slot.unset).toArray = ls at hl ⊢
  have hl : lv_has ls 3 [(0, .ref (g.2.2 39)), (1, .ref (g.2.2 33))] := hl
  obtain ⟨H, hH⟩ : ∃ H, H = s.heap := ⟨_, rfl⟩
  have hP : va_P g.1 vwCl (wM g h σ) H := by rw [hH]; exact hP
  have hS : va_S (AM g s.heap.size) s.heap H [] := by rw [hH]; exact hS
  refine wH hH ?_
  obtain ⟨locs, hlo⟩ : ∃ locs : List Loc, locs = [] := ⟨_, rfl⟩
  rw [← hlo] at hS
  refine wL hlo ?_
  unfold D_X12_copy_k2 at hD
  refine lv_iconst (v := (0 : Int32)) C.1 C.2.1 dX12_copy_0 (by decide) ?_
  refine lv_istore_n (lv' := [(2, .int (0 : Int32)), (0, .ref (g.2.2 39)), (1, .ref (g.2.2 33))]) C.1 C.2.1 dX12_copy_1 rfl hl (by decide) rfl (fun ls hl => ?_)
  exact w_L_X12_copy_k2_2 C hr N N (0 : Int32) σ H locs ls (lv_sub hl [1, 2, 0] rfl) hP hS hD
abbrev rm_X12_copy_s1 : Room := { frames := 0, cells := 0, slots := 0, locals := 0 }
set_option maxHeartbeats 4000000 in
set_option maxRecDepth 100000 in
theorem w_L_X12_copy_s1_2 (C : CM g A p s m args meth c cX12_copy 3 RX12) (hr : meth.sig.returnType = none) (N : Nat) {h : Int64} {u : St} : ∀ (n : Nat) (x2 : Int32) (σ : St) (H : Heap) (locs : List Loc) (ls : Array Slot), lv_has ls 3 [(0, .ref (g.2.2 34)), (1, .ref (g.2.2 40)), (2, .int x2)] → va_P g.1 vwCl (wM g h σ) H → va_S A s.heap H locs → L_X12_copy_s1_2 N n x2 σ = some u → W p l e rm_X12_copy_s1 s m args below meth c H locs 0 0 (MQ below (QvM g h A u) args s 0 0 A) (F0 m 2 ls []) := by
  intro n
  induction n with
  | zero =>
    intro x2 σ H locs ls hl hP hS hD
    rw [L_X12_copy_s1_2] at hD
    cases hD
  | succ n ih =>
    intro x2 σ H locs ls hl hP hS hD
    rw [L_X12_copy_s1_2] at hD
    refine lv_iload_n C.1 C.2.1 dX12_copy_2 rfl (lv_at hl 2 rfl) ?_
    refine lv_aload_n C.1 C.2.1 dX12_copy_3 rfl (lv_at hl 0 rfl) ?_
    refine alM C hP 3 (v := (36 : Int32)) rfl (by decide) dX12_copy_4 ?_
    refine lv_icmp_ge (tgt := 20) C.1 C.2.1 dX12_copy_5 (by decide) (fun c1 => ?_) (fun c1 => ?_)
    · have hD := b_t c1 hD
      cases hD
      exact rv_M C hr hP hS dX12_copy_20
    · have hD := b_f c1 hD
      refine lv_aload_n C.1 C.2.1 dX12_copy_8 rfl (lv_at hl 1 rfl) ?_
      refine lv_iload_n C.1 C.2.1 dX12_copy_9 rfl (lv_at hl 2 rfl) ?_
      refine lv_aload_n C.1 C.2.1 dX12_copy_10 rfl (lv_at hl 0 rfl) ?_
      refine lv_iload_n C.1 C.2.1 dX12_copy_11 rfl (lv_at hl 2 rfl) ?_
      obtain ⟨hi2, hD⟩ := gi_some hD
      refine iaM C hP 3 rfl hi2 dX12_copy_12 ?_
      obtain ⟨hi3, hD⟩ := gi_some hD
      refine isM C hP hS 9 rfl hi3 dX12_copy_13 st_40 (fun H locs hP hS => ?_)
      refine lv_iinc (v := x2 + (1 : Int32)) (lv' := [(2, .int (x2 + (1 : Int32))), (0, .ref (g.2.2 34)), (1, .ref (g.2.2 40))]) C.1 C.2.1 dX12_copy_14 hl (k := 2) rfl rfl (by decide) rfl (fun ls hl => ?_)
      refine lv_goto (tgt := 2) C.1 C.2.1 dX12_copy_17 (by decide) ?_
      exact ih (x2 + (1 : Int32)) (pt σ 40 x2.toNatClampNeg (σ 34 x2.toNatClampNeg)) H locs ls (lv_sub hl [1, 2, 0] rfl) hP hS hD
set_option maxHeartbeats 4000000 in
set_option maxRecDepth 100000 in
theorem c_X12_copy_s1 (l : Launch) (g : Gx) (sz : Nat) (N : Nat) (σ : St) {h : Int64} {u : St} (hD : D_X12_copy_s1 N σ = some u) : Met l yX12_copy (Cond.code yX12_copy cX12_copy 3 (none) :: tb) rm_X12_copy_s1 (PcM g h [.ref (g.2.2 34), .ref (g.2.2 40)] σ sz) (QvM g h (AM g sz) u) 0 0 (AM g sz) := by
  refine Met.ofW (cc := cX12_copy) (maxL := 3) (ret := none) (by decide) rfl ?_
  intro p e s m args below meth c s₁ B hml hv
  have hv0 := hv
  obtain ⟨rfl, hsz, hP, -⟩ := hv
  subst hsz
  have C : CM g (AM g s.heap.size) p s m _ meth c cX12_copy 3 RX12 := CM.of B hml (fun w h => List.mem_cons_of_mem _ h) rfl hv0
  have hr := B.returns
  have hS : va_S (AM g s.heap.size) s.heap s.heap [] := va_S.rf
  have hl := lv_entry ([.ref (g.2.2 34), .ref (g.2.2 40)]) (n := 3) (Nat.le_of_ble_eq_true rfl)
  rw [lg_entry_eq]
  generalize (lg_sl ([.ref (g.2.2 34), .ref (g.2.2 40)]) ++ List.replicate (3 - (lg_sl ([.ref (g.2.2 34), .ref (g.2.2 40)])).length) Slot.unset).toArray = ls at hl ⊢
  have hl : lv_has ls 3 [(0, .ref (g.2.2 34)), (1, .ref (g.2.2 40))] := hl
  obtain ⟨H, hH⟩ : ∃ H, H = s.heap := ⟨_, rfl⟩
  have hP : va_P g.1 vwCl (wM g h σ) H := by rw [hH]; exact hP
  have hS : va_S (AM g s.heap.size) s.heap H [] := by rw [hH]; exact hS
  refine wH hH ?_
  obtain ⟨locs, hlo⟩ : ∃ locs : List Loc, locs = [] := ⟨_, rfl⟩
  rw [← hlo] at hS
  refine wL hlo ?_
  unfold D_X12_copy_s1 at hD
  refine lv_iconst (v := (0 : Int32)) C.1 C.2.1 dX12_copy_0 (by decide) ?_
  refine lv_istore_n (lv' := [(2, .int (0 : Int32)), (0, .ref (g.2.2 34)), (1, .ref (g.2.2 40))]) C.1 C.2.1 dX12_copy_1 rfl hl (by decide) rfl (fun ls hl => ?_)
  exact w_L_X12_copy_s1_2 C hr N N (0 : Int32) σ H locs ls (lv_sub hl [1, 2, 0] rfl) hP hS hD
abbrev rm_X12_copy_s2 : Room := { frames := 0, cells := 0, slots := 0, locals := 0 }
set_option maxHeartbeats 4000000 in
set_option maxRecDepth 100000 in
theorem w_L_X12_copy_s2_2 (C : CM g A p s m args meth c cX12_copy 3 RX12) (hr : meth.sig.returnType = none) (N : Nat) {h : Int64} {u : St} : ∀ (n : Nat) (x2 : Int32) (σ : St) (H : Heap) (locs : List Loc) (ls : Array Slot), lv_has ls 3 [(0, .ref (g.2.2 40)), (1, .ref (g.2.2 34)), (2, .int x2)] → va_P g.1 vwCl (wM g h σ) H → va_S A s.heap H locs → L_X12_copy_s2_2 N n x2 σ = some u → W p l e rm_X12_copy_s2 s m args below meth c H locs 0 0 (MQ below (QvM g h A u) args s 0 0 A) (F0 m 2 ls []) := by
  intro n
  induction n with
  | zero =>
    intro x2 σ H locs ls hl hP hS hD
    rw [L_X12_copy_s2_2] at hD
    cases hD
  | succ n ih =>
    intro x2 σ H locs ls hl hP hS hD
    rw [L_X12_copy_s2_2] at hD
    refine lv_iload_n C.1 C.2.1 dX12_copy_2 rfl (lv_at hl 2 rfl) ?_
    refine lv_aload_n C.1 C.2.1 dX12_copy_3 rfl (lv_at hl 0 rfl) ?_
    refine alM C hP 9 (v := (36 : Int32)) rfl (by decide) dX12_copy_4 ?_
    refine lv_icmp_ge (tgt := 20) C.1 C.2.1 dX12_copy_5 (by decide) (fun c1 => ?_) (fun c1 => ?_)
    · have hD := b_t c1 hD
      cases hD
      exact rv_M C hr hP hS dX12_copy_20
    · have hD := b_f c1 hD
      refine lv_aload_n C.1 C.2.1 dX12_copy_8 rfl (lv_at hl 1 rfl) ?_
      refine lv_iload_n C.1 C.2.1 dX12_copy_9 rfl (lv_at hl 2 rfl) ?_
      refine lv_aload_n C.1 C.2.1 dX12_copy_10 rfl (lv_at hl 0 rfl) ?_
      refine lv_iload_n C.1 C.2.1 dX12_copy_11 rfl (lv_at hl 2 rfl) ?_
      obtain ⟨hi2, hD⟩ := gi_some hD
      refine iaM C hP 9 rfl hi2 dX12_copy_12 ?_
      obtain ⟨hi3, hD⟩ := gi_some hD
      refine isM C hP hS 3 rfl hi3 dX12_copy_13 st_34 (fun H locs hP hS => ?_)
      refine lv_iinc (v := x2 + (1 : Int32)) (lv' := [(2, .int (x2 + (1 : Int32))), (0, .ref (g.2.2 40)), (1, .ref (g.2.2 34))]) C.1 C.2.1 dX12_copy_14 hl (k := 2) rfl rfl (by decide) rfl (fun ls hl => ?_)
      refine lv_goto (tgt := 2) C.1 C.2.1 dX12_copy_17 (by decide) ?_
      exact ih (x2 + (1 : Int32)) (pt σ 34 x2.toNatClampNeg (σ 40 x2.toNatClampNeg)) H locs ls (lv_sub hl [1, 2, 0] rfl) hP hS hD
set_option maxHeartbeats 4000000 in
set_option maxRecDepth 100000 in
theorem c_X12_copy_s2 (l : Launch) (g : Gx) (sz : Nat) (N : Nat) (σ : St) {h : Int64} {u : St} (hD : D_X12_copy_s2 N σ = some u) : Met l yX12_copy (Cond.code yX12_copy cX12_copy 3 (none) :: tb) rm_X12_copy_s2 (PcM g h [.ref (g.2.2 40), .ref (g.2.2 34)] σ sz) (QvM g h (AM g sz) u) 0 0 (AM g sz) := by
  refine Met.ofW (cc := cX12_copy) (maxL := 3) (ret := none) (by decide) rfl ?_
  intro p e s m args below meth c s₁ B hml hv
  have hv0 := hv
  obtain ⟨rfl, hsz, hP, -⟩ := hv
  subst hsz
  have C : CM g (AM g s.heap.size) p s m _ meth c cX12_copy 3 RX12 := CM.of B hml (fun w h => List.mem_cons_of_mem _ h) rfl hv0
  have hr := B.returns
  have hS : va_S (AM g s.heap.size) s.heap s.heap [] := va_S.rf
  have hl := lv_entry ([.ref (g.2.2 40), .ref (g.2.2 34)]) (n := 3) (Nat.le_of_ble_eq_true rfl)
  rw [lg_entry_eq]
  generalize (lg_sl ([.ref (g.2.2 40), .ref (g.2.2 34)]) ++ List.replicate (3 - (lg_sl ([.ref (g.2.2 40), .ref (g.2.2 34)])).length) Slot.unset).toArray = ls at hl ⊢
  have hl : lv_has ls 3 [(0, .ref (g.2.2 40)), (1, .ref (g.2.2 34))] := hl
  obtain ⟨H, hH⟩ : ∃ H, H = s.heap := ⟨_, rfl⟩
  have hP : va_P g.1 vwCl (wM g h σ) H := by rw [hH]; exact hP
  have hS : va_S (AM g s.heap.size) s.heap H [] := by rw [hH]; exact hS
  refine wH hH ?_
  obtain ⟨locs, hlo⟩ : ∃ locs : List Loc, locs = [] := ⟨_, rfl⟩
  rw [← hlo] at hS
  refine wL hlo ?_
  unfold D_X12_copy_s2 at hD
  refine lv_iconst (v := (0 : Int32)) C.1 C.2.1 dX12_copy_0 (by decide) ?_
  refine lv_istore_n (lv' := [(2, .int (0 : Int32)), (0, .ref (g.2.2 40)), (1, .ref (g.2.2 34))]) C.1 C.2.1 dX12_copy_1 rfl hl (by decide) rfl (fun ls hl => ?_)
  exact w_L_X12_copy_s2_2 C hr N N (0 : Int32) σ H locs ls (lv_sub hl [1, 2, 0] rfl) hP hS hD
end WLK
