section WLK
variable {p : Program} {l : Launch} {e : Env} {s : State} {m : MethodId} {args : Array Value} {below : List Frame} {meth : Method} {c : Code} {g : Gx} {A : Nat → Prop}
abbrev rm_X12_isJudgeLetter : Room := { frames := 1, cells := 0, slots := 0, locals := 20 }
set_option maxHeartbeats 4000000 in
set_option maxRecDepth 100000 in
theorem w_J_X12_isJudgeLetter_25 (C : CM g A p s m args meth c cX12_isJudgeLetter 3 RX12) (hr : meth.sig.returnType = some .boolean) {h : Int64} {r : Int32} {u : St} (x1 : Int32) (x2 : Int32) : ∀ (σ : St) (H : Heap) (locs : List Loc) (ls : Array Slot), lv_has ls 3 [(1, .int x1), (2, .int x2)] → va_P g.1 vwCl (wM g h σ) H → va_S A s.heap H locs → J_X12_isJudgeLetter_25 x1 x2 σ = some (r, u) → W p l e rm_X12_isJudgeLetter s m args below meth c H locs 0 0 (MQ below (QiM g h A r u) args s 0 0 A) (F0 m 25 ls []) := by
  intro σ H locs ls hl hP hS hD
  unfold J_X12_isJudgeLetter_25 at hD
  refine lv_iload_n C.1 C.2.1 dX12_isJudgeLetter_25 rfl (lv_at hl 1 rfl) ?_
  obtain ⟨r3, hd3, hD⟩ := bp_some hD
  refine kSi_M (As := [.int x2]) (rest := []) C (c_X12_kindBy l g H.size σ x2 hd3) kw_X12_56 ⟨rfl, rfl⟩ ⟨Nat.le_of_ble_eq_true rfl, Nat.le_of_ble_eq_true rfl⟩ ks_X12_kindBy rfl hl.1 (Nat.le_of_ble_eq_true rfl) ⟨Nat.zero_le _, Nat.zero_le _⟩ dX12_isJudgeLetter_26 hP hS rfl (fun H locs hP hS => ?_)
  refine lv_iconst (v := (-1 : Int32)) C.1 C.2.1 dX12_isJudgeLetter_29 (by decide) ?_
  refine lv_icmp_eq (tgt := 43) C.1 C.2.1 dX12_isJudgeLetter_30 (by decide) (fun c4 => ?_) (fun c4 => ?_)
  · have hD := b_t c4 hD
    refine lv_iconst (v := (0 : Int32)) C.1 C.2.1 dX12_isJudgeLetter_43 (by decide) ?_
    cases hD
    exact rz_M C hr (Or.inl rfl) hP hS dX12_isJudgeLetter_44
  · have hD := b_f c4 hD
    refine lv_iload_n C.1 C.2.1 dX12_isJudgeLetter_33 rfl (lv_at hl 0 rfl) ?_
    refine lv_bipush (v := (6 : Int32)) C.1 C.2.1 dX12_isJudgeLetter_34 (by decide) ?_
    refine lv_icmp_ge (tgt := 43) C.1 C.2.1 dX12_isJudgeLetter_36 (by decide) (fun c5 => ?_) (fun c5 => ?_)
    · have hD := b_t c5 hD
      refine lv_iconst (v := (0 : Int32)) C.1 C.2.1 dX12_isJudgeLetter_43 (by decide) ?_
      cases hD
      exact rz_M C hr (Or.inl rfl) hP hS dX12_isJudgeLetter_44
    · have hD := b_f c5 hD
      refine lv_iconst (v := (1 : Int32)) C.1 C.2.1 dX12_isJudgeLetter_39 (by decide) ?_
      refine lv_goto (tgt := 44) C.1 C.2.1 dX12_isJudgeLetter_40 (by decide) ?_
      cases hD
      exact rz_M C hr (Or.inr rfl) hP hS dX12_isJudgeLetter_44
set_option maxHeartbeats 4000000 in
set_option maxRecDepth 100000 in
theorem c_X12_isJudgeLetter (l : Launch) (g : Gx) (sz : Nat) (σ : St) (x1 : Int32) {h : Int64} {r : Int32} {u : St} (hD : D_X12_isJudgeLetter σ x1 = some (r, u)) : Met l yX12_isJudgeLetter (Cond.code yX12_isJudgeLetter cX12_isJudgeLetter 3 (some .boolean) :: tb) rm_X12_isJudgeLetter (PcM g h [.ref (g.2.2 31), .int x1] σ sz) (QiM g h (AM g sz) r u) 0 0 (AM g sz) := by
  refine Met.ofW (cc := cX12_isJudgeLetter) (maxL := 3) (ret := some .boolean) (by decide) rfl ?_
  intro p e s m args below meth c s₁ B hml hv
  have hv0 := hv
  obtain ⟨rfl, hsz, hP, -⟩ := hv
  subst hsz
  have C : CM g (AM g s.heap.size) p s m _ meth c cX12_isJudgeLetter 3 RX12 := CM.of B hml (fun w h => List.mem_cons_of_mem _ h) rfl hv0
  have hr := B.returns
  have hS : va_S (AM g s.heap.size) s.heap s.heap [] := va_S.rf
  have hl := lv_entry ([.ref (g.2.2 31), .int x1]) (n := 3) (Nat.le_of_ble_eq_true rfl)
  rw [lg_entry_eq]
  generalize (lg_sl ([.ref (g.2.2 31), .int x1]) ++ List.replicate (3 - (lg_sl ([.ref (g.2.2 31), .int x1])).length) Slot.unset).toArray = ls at hl ⊢
  have hl : lv_has ls 3 [(0, .ref (g.2.2 31)), (1, .int x1)] := hl
  obtain ⟨H, hH⟩ : ∃ H, H = s.heap := ⟨_, rfl⟩
  have hP : va_P g.1 vwCl (wM g h σ) H := by rw [hH]; exact hP
  have hS : va_S (AM g s.heap.size) s.heap H [] := by rw [hH]; exact hS
  refine wH hH ?_
  obtain ⟨locs, hlo⟩ : ∃ locs : List Loc, locs = [] := ⟨_, rfl⟩
  rw [← hlo] at hS
  refine wL hlo ?_
  unfold D_X12_isJudgeLetter at hD
  refine lv_aload_n C.1 C.2.1 dX12_isJudgeLetter_0 rfl (lv_at hl 0 rfl) ?_
  refine gf_X12_7_31 C hP dX12_isJudgeLetter_1 ?_
  refine lv_iload_n C.1 C.2.1 dX12_isJudgeLetter_4 rfl (lv_at hl 1 rfl) ?_
  obtain ⟨hi1, hD⟩ := gi_some hD
  refine iaM C hP 1 rfl hi1 dX12_isJudgeLetter_5 ?_
  refine lv_istore_n (lv' := [(2, .int (σ 32 x1.toNatClampNeg)), (0, .ref (g.2.2 31)), (1, .int x1)]) C.1 C.2.1 dX12_isJudgeLetter_6 rfl hl (by decide) rfl (fun ls hl => ?_)
  refine lv_iload_n C.1 C.2.1 dX12_isJudgeLetter_7 rfl (lv_at hl 0 rfl) ?_
  refine lv_bipush (v := (59 : Int32)) C.1 C.2.1 dX12_isJudgeLetter_8 (by decide) ?_
  refine lv_icmp_ne (tgt := 25) C.1 C.2.1 dX12_isJudgeLetter_10 (by decide) (fun c2 => ?_) (fun c2 => ?_)
  · have hD := b_f c2 hD
    exact w_J_X12_isJudgeLetter_25 C hr x1 (σ 32 x1.toNatClampNeg) σ H locs ls (lv_sub hl [2, 0] rfl) hP hS hD
  · have hD := b_t c2 hD
    refine lv_iload_n C.1 C.2.1 dX12_isJudgeLetter_13 rfl (lv_at hl 2 rfl) ?_
    refine lv_iconst (v := (3 : Int32)) C.1 C.2.1 dX12_isJudgeLetter_14 (by decide) ?_
    refine lv_icmp_le (tgt := 25) C.1 C.2.1 dX12_isJudgeLetter_15 (by decide) (fun c6 => ?_) (fun c6 => ?_)
    · have hD := b_t c6 hD
      exact w_J_X12_isJudgeLetter_25 C hr x1 (σ 32 x1.toNatClampNeg) σ H locs ls (lv_sub hl [2, 0] rfl) hP hS hD
    · have hD := b_f c6 hD
      refine lv_aload_n C.1 C.2.1 dX12_isJudgeLetter_18 rfl (lv_at hl 1 rfl) ?_
      refine lv_iload_n C.1 C.2.1 dX12_isJudgeLetter_19 rfl (lv_at hl 2 rfl) ?_
      refine pf_X12_53_31 C hP hS dX12_isJudgeLetter_20 (fun H locs hP hS => ?_)
      refine lv_iconst (v := (1 : Int32)) C.1 C.2.1 dX12_isJudgeLetter_23 (by decide) ?_
      cases hD
      exact rz_M C hr (Or.inr rfl) hP hS dX12_isJudgeLetter_24
abbrev rm_X12_isGood : Room := { frames := 2, cells := 0, slots := 0, locals := 42 }
set_option maxHeartbeats 4000000 in
set_option maxRecDepth 100000 in
theorem c_X12_isGood (l : Launch) (g : Gx) (sz : Nat) (σ : St) (x1 : Int32) {h : Int64} {r : Int32} {u : St} (hD : D_X12_isGood σ x1 = some (r, u)) : Met l yX12_isGood (Cond.code yX12_isGood cX12_isGood 3 (some .boolean) :: tb) rm_X12_isGood (PcM g h [.ref (g.2.2 31), .int x1] σ sz) (QiM g h (AM g sz) r u) 0 0 (AM g sz) := by
  refine Met.ofW (cc := cX12_isGood) (maxL := 3) (ret := some .boolean) (by decide) rfl ?_
  intro p e s m args below meth c s₁ B hml hv
  have hv0 := hv
  obtain ⟨rfl, hsz, hP, -⟩ := hv
  subst hsz
  have C : CM g (AM g s.heap.size) p s m _ meth c cX12_isGood 3 RX12 := CM.of B hml (fun w h => List.mem_cons_of_mem _ h) rfl hv0
  have hr := B.returns
  have hS : va_S (AM g s.heap.size) s.heap s.heap [] := va_S.rf
  have hl := lv_entry ([.ref (g.2.2 31), .int x1]) (n := 3) (Nat.le_of_ble_eq_true rfl)
  rw [lg_entry_eq]
  generalize (lg_sl ([.ref (g.2.2 31), .int x1]) ++ List.replicate (3 - (lg_sl ([.ref (g.2.2 31), .int x1])).length) Slot.unset).toArray = ls at hl ⊢
  have hl : lv_has ls 3 [(0, .ref (g.2.2 31)), (1, .int x1)] := hl
  obtain ⟨H, hH⟩ : ∃ H, H = s.heap := ⟨_, rfl⟩
  have hP : va_P g.1 vwCl (wM g h σ) H := by rw [hH]; exact hP
  have hS : va_S (AM g s.heap.size) s.heap H [] := by rw [hH]; exact hS
  refine wH hH ?_
  obtain ⟨locs, hlo⟩ : ∃ locs : List Loc, locs = [] := ⟨_, rfl⟩
  rw [← hlo] at hS
  refine wL hlo ?_
  unfold D_X12_isGood at hD
  refine lv_aload_n C.1 C.2.1 dX12_isGood_0 rfl (lv_at hl 0 rfl) ?_
  refine gf_X12_7_31 C hP dX12_isGood_1 ?_
  refine lv_iload_n C.1 C.2.1 dX12_isGood_4 rfl (lv_at hl 1 rfl) ?_
  obtain ⟨hi1, hD⟩ := gi_some hD
  refine iaM C hP 1 rfl hi1 dX12_isGood_5 ?_
  refine lv_istore_n (lv' := [(2, .int (σ 32 x1.toNatClampNeg)), (0, .ref (g.2.2 31)), (1, .int x1)]) C.1 C.2.1 dX12_isGood_6 rfl hl (by decide) rfl (fun ls hl => ?_)
  refine lv_iload_n C.1 C.2.1 dX12_isGood_7 rfl (lv_at hl 2 rfl) ?_
  by_cases c2 : x1 = (0 : Int32)
  · have hD := b_t c2 hD
    refine lv_tableIn (off := 28) (tgt := 36) C.1 C.2.1 dX12_isGood_8 (by rw [c2]; decide) (by rw [c2]; decide) (by rw [c2]; rfl) (by decide) ?_
    refine lv_iload_n C.1 C.2.1 dX12_isGood_36 rfl (lv_at hl 0 rfl) ?_
    refine lv_i2l C.1 C.2.1 dX12_isGood_37 rfl ?_
    refine lv_ldc2 (v := (49 : Int64)) (own := RX12) C.1 C.2.1 C.2.2.2.1 (C.2.2.2.2.1 (.constantLong RX12 60 (49 : Int64)) (tb_in 886 (by decide +kernel) (by decide +kernel))) dX12_isGood_38 ?_
    refine lv_ldc2 (v := (51 : Int64)) (own := RX12) C.1 C.2.1 C.2.2.2.1 (C.2.2.2.2.1 (.constantLong RX12 62 (51 : Int64)) (tb_in 887 (by decide +kernel) (by decide +kernel))) dX12_isGood_41 ?_
    obtain ⟨r3, hd3, hD⟩ := bp_some hD
    refine kSi_M (As := [.long ((σ 32 x1.toNatClampNeg).toInt64), .long (49 : Int64), .long (51 : Int64)]) (rest := []) C (c_X12_in l g H.size σ ((σ 32 x1.toNatClampNeg).toInt64) (49 : Int64) (51 : Int64) hd3) kw_X12_46 ⟨rfl, rfl⟩ ⟨Nat.le_of_ble_eq_true rfl, Nat.le_of_ble_eq_true rfl⟩ ks_X12_in rfl hl.1 (Nat.le_of_ble_eq_true rfl) ⟨Nat.zero_le _, Nat.zero_le _⟩ dX12_isGood_44 hP hS rfl (fun H locs hP hS => ?_)
    obtain ⟨hb4, hD⟩ := gb_some hD
    cases hD
    exact rz_M C hr hb4 hP hS dX12_isGood_47
  · have hD := b_f c2 hD
    by_cases c5 : x1 = (1 : Int32)
    · have hD := b_t c5 hD
      refine lv_tableIn (off := 40) (tgt := 48) C.1 C.2.1 dX12_isGood_8 (by rw [c5]; decide) (by rw [c5]; decide) (by rw [c5]; rfl) (by decide) ?_
      refine lv_iload_n C.1 C.2.1 dX12_isGood_48 rfl (lv_at hl 0 rfl) ?_
      refine lv_i2l C.1 C.2.1 dX12_isGood_49 rfl ?_
      refine lv_ldc2 (v := (50 : Int64)) (own := RX12) C.1 C.2.1 C.2.2.2.1 (C.2.2.2.2.1 (.constantLong RX12 64 (50 : Int64)) (tb_in 888 (by decide +kernel) (by decide +kernel))) dX12_isGood_50 ?_
      refine lv_ldc2 (v := (54 : Int64)) (own := RX12) C.1 C.2.1 C.2.2.2.1 (C.2.2.2.2.1 (.constantLong RX12 66 (54 : Int64)) (tb_in 889 (by decide +kernel) (by decide +kernel))) dX12_isGood_53 ?_
      obtain ⟨r6, hd6, hD⟩ := bp_some hD
      refine kSi_M (As := [.long ((σ 32 x1.toNatClampNeg).toInt64), .long (50 : Int64), .long (54 : Int64)]) (rest := []) C (c_X12_in l g H.size σ ((σ 32 x1.toNatClampNeg).toInt64) (50 : Int64) (54 : Int64) hd6) kw_X12_46 ⟨rfl, rfl⟩ ⟨Nat.le_of_ble_eq_true rfl, Nat.le_of_ble_eq_true rfl⟩ ks_X12_in rfl hl.1 (Nat.le_of_ble_eq_true rfl) ⟨Nat.zero_le _, Nat.zero_le _⟩ dX12_isGood_56 hP hS rfl (fun H locs hP hS => ?_)
      obtain ⟨hb7, hD⟩ := gb_some hD
      cases hD
      exact rz_M C hr hb7 hP hS dX12_isGood_59
    · have hD := b_f c5 hD
      by_cases c8 : x1 = (2 : Int32)
      · have hD := b_t c8 hD
        refine lv_tableIn (off := 52) (tgt := 60) C.1 C.2.1 dX12_isGood_8 (by rw [c8]; decide) (by rw [c8]; decide) (by rw [c8]; rfl) (by decide) ?_
        refine lv_iload_n C.1 C.2.1 dX12_isGood_60 rfl (lv_at hl 0 rfl) ?_
        refine lv_bipush (v := (59 : Int32)) C.1 C.2.1 dX12_isGood_61 (by decide) ?_
        refine lv_icmp_ne (tgt := 70) C.1 C.2.1 dX12_isGood_63 (by decide) (fun c9 => ?_) (fun c9 => ?_)
        · have hD := b_f c9 hD
          refine lv_iconst (v := (0 : Int32)) C.1 C.2.1 dX12_isGood_70 (by decide) ?_
          cases hD
          exact rz_M C hr (Or.inl rfl) hP hS dX12_isGood_71
        · have hD := b_t c9 hD
          refine lv_iconst (v := (1 : Int32)) C.1 C.2.1 dX12_isGood_66 (by decide) ?_
          refine lv_goto (tgt := 71) C.1 C.2.1 dX12_isGood_67 (by decide) ?_
          cases hD
          exact rz_M C hr (Or.inr rfl) hP hS dX12_isGood_71
      · have hD := b_f c8 hD
        refine lv_tableOut (tgt := 72) C.1 C.2.1 dX12_isGood_8 (by have q2 := lv_neT c2 (a := 0) (by decide); have q5 := lv_neT c5 (a := 1) (by decide); have q8 := lv_neT c8 (a := 2) (by decide); omega) (by decide) ?_
        refine lv_aload_n C.1 C.2.1 dX12_isGood_72 rfl (lv_at hl 1 rfl) ?_
        refine gf_X12_53_31 C hP dX12_isGood_73 ?_
        refine lv_if_ne (tgt := 85) C.1 C.2.1 dX12_isGood_76 (by decide) (fun c10 => ?_) (fun c10 => ?_)
        · have hD := b_f c10 hD
          refine lv_iload_n C.1 C.2.1 dX12_isGood_85 rfl (lv_at hl 2 rfl) ?_
          refine lv_aload_n C.1 C.2.1 dX12_isGood_86 rfl (lv_at hl 1 rfl) ?_
          refine gf_X12_53_31 C hP dX12_isGood_87 ?_
          refine lv_isub C.1 C.2.1 dX12_isGood_90 ?_
          refine lv_aload_n C.1 C.2.1 dX12_isGood_91 rfl (lv_at hl 1 rfl) ?_
          refine gf_X12_7_31 C hP dX12_isGood_92 ?_
          refine lv_iconst (v := (0 : Int32)) C.1 C.2.1 dX12_isGood_95 (by decide) ?_
          obtain ⟨hi11, hD⟩ := gi_some hD
          refine iaM C hP 1 rfl hi11 dX12_isGood_96 ?_
          refine lv_bipush (v := (48 : Int32)) C.1 C.2.1 dX12_isGood_97 (by decide) ?_
          refine lv_isub C.1 C.2.1 dX12_isGood_99 ?_
          refine lv_icmp_gt (tgt := 131) C.1 C.2.1 dX12_isGood_100 (by decide) (fun c12 => ?_) (fun c12 => ?_)
          · have hD := b_t c12 hD
            refine lv_iconst (v := (0 : Int32)) C.1 C.2.1 dX12_isGood_131 (by decide) ?_
            cases hD
            exact rz_M C hr (Or.inl rfl) hP hS dX12_isGood_132
          · have hD := b_f c12 hD
            refine lv_iload_n C.1 C.2.1 dX12_isGood_103 rfl (lv_at hl 0 rfl) ?_
            refine lv_i2l C.1 C.2.1 dX12_isGood_104 rfl ?_
            refine lv_ldc2 (v := (97 : Int64)) (own := RX12) C.1 C.2.1 C.2.2.2.1 (C.2.2.2.2.1 (.constantLong RX12 72 (97 : Int64)) (tb_in 897 (by decide +kernel) (by decide +kernel))) dX12_isGood_105 ?_
            refine lv_bipush (v := (97 : Int32)) C.1 C.2.1 dX12_isGood_108 (by decide) ?_
            refine lv_aload_n C.1 C.2.1 dX12_isGood_110 rfl (lv_at hl 1 rfl) ?_
            refine gf_X12_7_31 C hP dX12_isGood_111 ?_
            refine lv_iconst (v := (1 : Int32)) C.1 C.2.1 dX12_isGood_114 (by decide) ?_
            obtain ⟨hi13, hD⟩ := gi_some hD
            refine iaM C hP 1 rfl hi13 dX12_isGood_115 ?_
            refine lv_iadd C.1 C.2.1 dX12_isGood_116 ?_
            refine lv_bipush (v := (49 : Int32)) C.1 C.2.1 dX12_isGood_117 (by decide) ?_
            refine lv_isub C.1 C.2.1 dX12_isGood_119 ?_
            refine lv_i2l C.1 C.2.1 dX12_isGood_120 rfl ?_
            obtain ⟨r14, hd14, hD⟩ := bp_some hD
            refine kSi_M (As := [.long ((σ 32 x1.toNatClampNeg).toInt64), .long (97 : Int64), .long ((((97 : Int32) + (σ 32 ((1 : Int32).toNatClampNeg))) - (49 : Int32)).toInt64)]) (rest := []) C (c_X12_in l g H.size σ ((σ 32 x1.toNatClampNeg).toInt64) (97 : Int64) ((((97 : Int32) + (σ 32 ((1 : Int32).toNatClampNeg))) - (49 : Int32)).toInt64) hd14) kw_X12_46 ⟨rfl, rfl⟩ ⟨Nat.le_of_ble_eq_true rfl, Nat.le_of_ble_eq_true rfl⟩ ks_X12_in rfl hl.1 (Nat.le_of_ble_eq_true rfl) ⟨Nat.zero_le _, Nat.zero_le _⟩ dX12_isGood_121 hP hS rfl (fun H locs hP hS => ?_)
            refine lv_if_eq (tgt := 131) C.1 C.2.1 dX12_isGood_124 (by decide) (fun c15 => ?_) (fun c15 => ?_)
            · have hD := b_t c15 hD
              refine lv_iconst (v := (0 : Int32)) C.1 C.2.1 dX12_isGood_131 (by decide) ?_
              cases hD
              exact rz_M C hr (Or.inl rfl) hP hS dX12_isGood_132
            · have hD := b_f c15 hD
              refine lv_iconst (v := (1 : Int32)) C.1 C.2.1 dX12_isGood_127 (by decide) ?_
              refine lv_goto (tgt := 132) C.1 C.2.1 dX12_isGood_128 (by decide) ?_
              cases hD
              exact rz_M C hr (Or.inr rfl) hP hS dX12_isGood_132
        · have hD := b_t c10 hD
          refine lv_aload_n C.1 C.2.1 dX12_isGood_79 rfl (lv_at hl 1 rfl) ?_
          refine lv_iload_n C.1 C.2.1 dX12_isGood_80 rfl (lv_at hl 2 rfl) ?_
          obtain ⟨r16, s16, hd16, hD⟩ := bs_some hD
          refine kVi_M (As := [.int x1]) (rest := []) (ci := 12) (q0 := 0) C (c_X12_isJudgeLetter l g H.size σ x1 hd16) kw_X12_68 ⟨rfl, rfl⟩ ⟨Nat.le_of_ble_eq_true rfl, Nat.le_of_ble_eq_true rfl⟩ kv_X12_isJudgeLetter rfl rfl rfl hl.1 (Nat.le_of_ble_eq_true rfl) ⟨Nat.zero_le _, Nat.zero_le _⟩ dX12_isGood_81 hP hS rfl (fun H locs hP hS => ?_)
          obtain ⟨hb17, hD⟩ := gb_some hD
          cases hD
          exact rz_M C hr hb17 hP hS dX12_isGood_84
abbrev rm_X12_faultOf : Room := { frames := 3, cells := 0, slots := 0, locals := 64 }
set_option maxHeartbeats 4000000 in
set_option maxRecDepth 100000 in
theorem w_L_X12_faultOf_7 (C : CM g A p s m args meth c cX12_faultOf 2 RX12) (hr : meth.sig.returnType = some .int) (N : Nat) {h : Int64} {r : Int32} {u : St} : ∀ (n : Nat) (x1 : Int32) (σ : St) (H : Heap) (locs : List Loc) (ls : Array Slot), lv_has ls 2 [(0, .ref (g.2.2 31)), (1, .int x1)] → va_P g.1 vwCl (wM g h σ) H → va_S A s.heap H locs → L_X12_faultOf_7 N n x1 σ = some (r, u) → W p l e rm_X12_faultOf s m args below meth c H locs 0 0 (MQ below (QiM g h A r u) args s 0 0 A) (F0 m 7 ls []) := by
  intro n
  induction n with
  | zero =>
    intro x1 σ H locs ls hl hP hS hD
    rw [L_X12_faultOf_7] at hD
    cases hD
  | succ n ih =>
    intro x1 σ H locs ls hl hP hS hD
    rw [L_X12_faultOf_7] at hD
    refine lv_iload_n C.1 C.2.1 dX12_faultOf_7 rfl (lv_at hl 1 rfl) ?_
    refine lv_aload_n C.1 C.2.1 dX12_faultOf_8 rfl (lv_at hl 0 rfl) ?_
    refine gf_X12_50_31 C hP dX12_faultOf_9 ?_
    refine lv_icmp_ge (tgt := 29) C.1 C.2.1 dX12_faultOf_12 (by decide) (fun c1 => ?_) (fun c1 => ?_)
    · have hD := b_t c1 hD
      refine lv_iload_n C.1 C.2.1 dX12_faultOf_29 rfl (lv_at hl 1 rfl) ?_
      cases hD
      exact ri_M C hr hP hS dX12_faultOf_30
    · have hD := b_f c1 hD
      refine lv_aload_n C.1 C.2.1 dX12_faultOf_15 rfl (lv_at hl 0 rfl) ?_
      refine lv_iload_n C.1 C.2.1 dX12_faultOf_16 rfl (lv_at hl 1 rfl) ?_
      obtain ⟨r2, s2, hd2, hD⟩ := bs_some hD
      refine kVi_M (As := [.int x1]) (rest := []) (ci := 12) (q0 := 0) C (c_X12_isGood l g H.size σ x1 hd2) kw_X12_74 ⟨rfl, rfl⟩ ⟨Nat.le_of_ble_eq_true rfl, Nat.le_of_ble_eq_true rfl⟩ kv_X12_isGood rfl rfl rfl hl.1 (Nat.le_of_ble_eq_true rfl) ⟨Nat.zero_le _, Nat.zero_le _⟩ dX12_faultOf_17 hP hS rfl (fun H locs hP hS => ?_)
      refine lv_if_eq (tgt := 29) C.1 C.2.1 dX12_faultOf_20 (by decide) (fun c3 => ?_) (fun c3 => ?_)
      · have hD := b_t c3 hD
        refine lv_iload_n C.1 C.2.1 dX12_faultOf_29 rfl (lv_at hl 1 rfl) ?_
        cases hD
        exact ri_M C hr hP hS dX12_faultOf_30
      · have hD := b_f c3 hD
        refine lv_iinc (v := x1 + (1 : Int32)) (lv' := [(1, .int (x1 + (1 : Int32))), (0, .ref (g.2.2 31))]) C.1 C.2.1 dX12_faultOf_23 hl (k := 1) rfl rfl (by decide) rfl (fun ls hl => ?_)
        refine lv_goto (tgt := 7) C.1 C.2.1 dX12_faultOf_26 (by decide) ?_
        exact ih (x1 + (1 : Int32)) s2 H locs ls (lv_sub hl [1, 0] rfl) hP hS hD
set_option maxHeartbeats 4000000 in
set_option maxRecDepth 100000 in
theorem c_X12_faultOf (l : Launch) (g : Gx) (sz : Nat) (N : Nat) (σ : St) {h : Int64} {r : Int32} {u : St} (hD : D_X12_faultOf N σ = some (r, u)) : Met l yX12_faultOf (Cond.code yX12_faultOf cX12_faultOf 2 (some .int) :: tb) rm_X12_faultOf (PcM g h [.ref (g.2.2 31)] σ sz) (QiM g h (AM g sz) r u) 0 0 (AM g sz) := by
  refine Met.ofW (cc := cX12_faultOf) (maxL := 2) (ret := some .int) (by decide) rfl ?_
  intro p e s m args below meth c s₁ B hml hv
  have hv0 := hv
  obtain ⟨rfl, hsz, hP, -⟩ := hv
  subst hsz
  have C : CM g (AM g s.heap.size) p s m _ meth c cX12_faultOf 2 RX12 := CM.of B hml (fun w h => List.mem_cons_of_mem _ h) rfl hv0
  have hr := B.returns
  have hS : va_S (AM g s.heap.size) s.heap s.heap [] := va_S.rf
  have hl := lv_entry ([.ref (g.2.2 31)]) (n := 2) (Nat.le_of_ble_eq_true rfl)
  rw [lg_entry_eq]
  generalize (lg_sl ([.ref (g.2.2 31)]) ++ List.replicate (2 - (lg_sl ([.ref (g.2.2 31)])).length) Slot.unset).toArray = ls at hl ⊢
  have hl : lv_has ls 2 [(0, .ref (g.2.2 31))] := hl
  obtain ⟨H, hH⟩ : ∃ H, H = s.heap := ⟨_, rfl⟩
  have hP : va_P g.1 vwCl (wM g h σ) H := by rw [hH]; exact hP
  have hS : va_S (AM g s.heap.size) s.heap H [] := by rw [hH]; exact hS
  refine wH hH ?_
  obtain ⟨locs, hlo⟩ : ∃ locs : List Loc, locs = [] := ⟨_, rfl⟩
  rw [← hlo] at hS
  refine wL hlo ?_
  unfold D_X12_faultOf at hD
  refine lv_aload_n C.1 C.2.1 dX12_faultOf_0 rfl (lv_at hl 0 rfl) ?_
  refine lv_iconst (v := (0 : Int32)) C.1 C.2.1 dX12_faultOf_1 (by decide) ?_
  refine pf_X12_53_31 C hP hS dX12_faultOf_2 (fun H locs hP hS => ?_)
  refine lv_iconst (v := (0 : Int32)) C.1 C.2.1 dX12_faultOf_5 (by decide) ?_
  refine lv_istore_n (lv' := [(1, .int (0 : Int32)), (0, .ref (g.2.2 31))]) C.1 C.2.1 dX12_faultOf_6 rfl hl (by decide) rfl (fun ls hl => ?_)
  exact w_L_X12_faultOf_7 C hr N N (0 : Int32) (pt σ 31 2 (0 : Int32)) H locs ls (lv_sub hl [1, 0] rfl) hP hS hD
abbrev rm_X12_fault : Room := { frames := 4, cells := 0, slots := 0, locals := 85 }
set_option maxHeartbeats 4000000 in
set_option maxRecDepth 100000 in
theorem c_X12_fault (l : Launch) (g : Gx) (sz : Nat) (N : Nat) (σ : St) {h : Int64} {r : Int32} {u : St} (hD : D_X12_fault N σ = some (r, u)) : Met l yX12_fault (Cond.code yX12_fault cX12_fault 1 (some .int) :: tb) rm_X12_fault (PcM g h [.ref (g.2.2 31)] σ sz) (QiM g h (AM g sz) r u) 0 0 (AM g sz) := by
  refine Met.ofW (cc := cX12_fault) (maxL := 1) (ret := some .int) (by decide) rfl ?_
  intro p e s m args below meth c s₁ B hml hv
  have hv0 := hv
  obtain ⟨rfl, hsz, hP, -⟩ := hv
  subst hsz
  have C : CM g (AM g s.heap.size) p s m _ meth c cX12_fault 1 RX12 := CM.of B hml (fun w h => List.mem_cons_of_mem _ h) rfl hv0
  have hr := B.returns
  have hS : va_S (AM g s.heap.size) s.heap s.heap [] := va_S.rf
  have hl := lv_entry ([.ref (g.2.2 31)]) (n := 1) (Nat.le_of_ble_eq_true rfl)
  rw [lg_entry_eq]
  generalize (lg_sl ([.ref (g.2.2 31)]) ++ List.replicate (1 - (lg_sl ([.ref (g.2.2 31)])).length) Slot.unset).toArray = ls at hl ⊢
  have hl : lv_has ls 1 [(0, .ref (g.2.2 31))] := hl
  obtain ⟨H, hH⟩ : ∃ H, H = s.heap := ⟨_, rfl⟩
  have hP : va_P g.1 vwCl (wM g h σ) H := by rw [hH]; exact hP
  have hS : va_S (AM g s.heap.size) s.heap H [] := by rw [hH]; exact hS
  refine wH hH ?_
  obtain ⟨locs, hlo⟩ : ∃ locs : List Loc, locs = [] := ⟨_, rfl⟩
  rw [← hlo] at hS
  refine wL hlo ?_
  unfold D_X12_fault at hD
  refine lv_aload_n C.1 C.2.1 dX12_fault_0 rfl (lv_at hl 0 rfl) ?_
  obtain ⟨r1, s1, hd1, hD⟩ := bs_some hD
  refine kVi_M (As := []) (rest := []) (ci := 12) (q0 := 0) C (c_X12_faultOf l g H.size N σ hd1) kw_X12_77 ⟨rfl, rfl⟩ ⟨Nat.le_of_ble_eq_true rfl, Nat.le_of_ble_eq_true rfl⟩ kv_X12_faultOf rfl rfl rfl hl.1 (Nat.le_of_ble_eq_true rfl) ⟨Nat.zero_le _, Nat.zero_le _⟩ dX12_fault_1 hP hS rfl (fun H locs hP hS => ?_)
  cases hD
  exact ri_M C hr hP hS dX12_fault_4
abbrev rm_X12_fits : Room := { frames := 6, cells := 0, slots := 0, locals := 142 }
set_option maxHeartbeats 4000000 in
set_option maxRecDepth 100000 in
theorem c_X12_fits (l : Launch) (g : Gx) (sz : Nat) (N : Nat) (σ : St) (x1 : Int32) {h : Int64} {r : Int32} {u : St} (hD : D_X12_fits N σ x1 = some (r, u)) : Met l yX12_fits (Cond.code yX12_fits cX12_fits 2 (some .int) :: tb) rm_X12_fits (PcM g h [.ref (g.2.2 31), .int x1] σ sz) (QiM g h (AM g sz) r u) 0 0 (AM g sz) := by
  refine Met.ofW (cc := cX12_fits) (maxL := 2) (ret := some .int) (by decide) rfl ?_
  intro p e s m args below meth c s₁ B hml hv
  have hv0 := hv
  obtain ⟨rfl, hsz, hP, -⟩ := hv
  subst hsz
  have C : CM g (AM g s.heap.size) p s m _ meth c cX12_fits 2 RX12 := CM.of B hml (fun w h => List.mem_cons_of_mem _ h) rfl hv0
  have hr := B.returns
  have hS : va_S (AM g s.heap.size) s.heap s.heap [] := va_S.rf
  have hl := lv_entry ([.ref (g.2.2 31), .int x1]) (n := 2) (Nat.le_of_ble_eq_true rfl)
  rw [lg_entry_eq]
  generalize (lg_sl ([.ref (g.2.2 31), .int x1]) ++ List.replicate (2 - (lg_sl ([.ref (g.2.2 31), .int x1])).length) Slot.unset).toArray = ls at hl ⊢
  have hl : lv_has ls 2 [(0, .ref (g.2.2 31)), (1, .int x1)] := hl
  obtain ⟨H, hH⟩ : ∃ H, H = s.heap := ⟨_, rfl⟩
  have hP : va_P g.1 vwCl (wM g h σ) H := by rw [hH]; exact hP
  have hS : va_S (AM g s.heap.size) s.heap H [] := by rw [hH]; exact hS
  refine wH hH ?_
  obtain ⟨locs, hlo⟩ : ∃ locs : List Loc, locs = [] := ⟨_, rfl⟩
  rw [← hlo] at hS
  refine wL hlo ?_
  unfold D_X12_fits at hD
  refine lv_iload_n C.1 C.2.1 dX12_fits_0 rfl (lv_at hl 1 rfl) ?_
  refine lv_if_ge (tgt := 7) C.1 C.2.1 dX12_fits_1 (by decide) (fun c1 => ?_) (fun c1 => ?_)
  · have hD := b_t c1 hD
    refine lv_aload_n C.1 C.2.1 dX12_fits_7 rfl (lv_at hl 0 rfl) ?_
    obtain ⟨r2, hd2, hD⟩ := bp_some hD
    refine kVi_M (As := []) (rest := []) (ci := 12) (q0 := 0) C (c_X12_lacks l g H.size σ hd2) kw_X12_129 ⟨rfl, rfl⟩ ⟨Nat.le_of_ble_eq_true rfl, Nat.le_of_ble_eq_true rfl⟩ kv_X12_lacks rfl rfl rfl hl.1 (Nat.le_of_ble_eq_true rfl) ⟨Nat.zero_le _, Nat.zero_le _⟩ dX12_fits_8 hP hS rfl (fun H locs hP hS => ?_)
    refine lv_if_eq (tgt := 19) C.1 C.2.1 dX12_fits_11 (by decide) (fun c3 => ?_) (fun c3 => ?_)
    · have hD := b_t c3 hD
      refine lv_aload_n C.1 C.2.1 dX12_fits_19 rfl (lv_at hl 0 rfl) ?_
      refine lv_iload_n C.1 C.2.1 dX12_fits_20 rfl (lv_at hl 1 rfl) ?_
      obtain ⟨r4, s4, hd4, hD⟩ := bs_some hD
      refine kVi_M (As := [.int x1]) (rest := []) (ci := 12) (q0 := 0) C (c_X12_fitsOf l g H.size N σ x1 hd4) kw_X12_136 ⟨rfl, rfl⟩ ⟨Nat.le_of_ble_eq_true rfl, Nat.le_of_ble_eq_true rfl⟩ kv_X12_fitsOf rfl rfl rfl hl.1 (Nat.le_of_ble_eq_true rfl) ⟨Nat.zero_le _, Nat.zero_le _⟩ dX12_fits_21 hP hS rfl (fun H locs hP hS => ?_)
      cases hD
      exact ri_M C hr hP hS dX12_fits_24
    · have hD := b_f c3 hD
      refine lv_bipush (v := (-103 : Int32)) C.1 C.2.1 dX12_fits_14 (by decide) ?_
      refine lv_goto (tgt := 24) C.1 C.2.1 dX12_fits_16 (by decide) ?_
      cases hD
      exact ri_M C hr hP hS dX12_fits_24
  · have hD := b_f c1 hD
    refine lv_bipush (v := (-102 : Int32)) C.1 C.2.1 dX12_fits_4 (by decide) ?_
    cases hD
    exact ri_M C hr hP hS dX12_fits_6
abbrev rm_X12_forget : Room := { frames := 0, cells := 0, slots := 0, locals := 0 }
set_option maxHeartbeats 4000000 in
set_option maxRecDepth 100000 in
theorem c_X12_forget (l : Launch) (g : Gx) (sz : Nat) (σ : St) {h : Int64} {r : Int32} {u : St} (hD : D_X12_forget σ = some (r, u)) : Met l yX12_forget (Cond.code yX12_forget cX12_forget 2 (some .int) :: tb) rm_X12_forget (PcM g h [.ref (g.2.2 31)] σ sz) (QiM g h (AM g sz) r u) 0 0 (AM g sz) := by
  refine Met.ofW (cc := cX12_forget) (maxL := 2) (ret := some .int) (by decide) rfl ?_
  intro p e s m args below meth c s₁ B hml hv
  have hv0 := hv
  obtain ⟨rfl, hsz, hP, -⟩ := hv
  subst hsz
  have C : CM g (AM g s.heap.size) p s m _ meth c cX12_forget 2 RX12 := CM.of B hml (fun w h => List.mem_cons_of_mem _ h) rfl hv0
  have hr := B.returns
  have hS : va_S (AM g s.heap.size) s.heap s.heap [] := va_S.rf
  have hl := lv_entry ([.ref (g.2.2 31)]) (n := 2) (Nat.le_of_ble_eq_true rfl)
  rw [lg_entry_eq]
  generalize (lg_sl ([.ref (g.2.2 31)]) ++ List.replicate (2 - (lg_sl ([.ref (g.2.2 31)])).length) Slot.unset).toArray = ls at hl ⊢
  have hl : lv_has ls 2 [(0, .ref (g.2.2 31))] := hl
  obtain ⟨H, hH⟩ : ∃ H, H = s.heap := ⟨_, rfl⟩
  have hP : va_P g.1 vwCl (wM g h σ) H := by rw [hH]; exact hP
  have hS : va_S (AM g s.heap.size) s.heap H [] := by rw [hH]; exact hS
  refine wH hH ?_
  obtain ⟨locs, hlo⟩ : ∃ locs : List Loc, locs = [] := ⟨_, rfl⟩
  rw [← hlo] at hS
  refine wL hlo ?_
  unfold D_X12_forget at hD
  refine lv_aload_n C.1 C.2.1 dX12_forget_0 rfl (lv_at hl 0 rfl) ?_
  refine gf_X12_93_31 C hP dX12_forget_1 ?_
  refine lv_istore_n (lv' := [(1, .int (σ 31 8)), (0, .ref (g.2.2 31))]) C.1 C.2.1 dX12_forget_4 rfl hl (by decide) rfl (fun ls hl => ?_)
  refine lv_aload_n C.1 C.2.1 dX12_forget_5 rfl (lv_at hl 1 rfl) ?_
  refine lv_iconst (v := (0 : Int32)) C.1 C.2.1 dX12_forget_6 (by decide) ?_
  refine pf_X12_93_31 C hP hS dX12_forget_7 (fun H locs hP hS => ?_)
  refine lv_iload_n C.1 C.2.1 dX12_forget_10 rfl (lv_at hl 0 rfl) ?_
  cases hD
  exact ri_M C hr hP hS dX12_forget_11
abbrev rm_X12_game : Room := { frames := 4, cells := 0, slots := 0, locals := 85 }
set_option maxHeartbeats 4000000 in
set_option maxRecDepth 100000 in
theorem w_L_X12_game_151 (C : CM g A p s m args meth c cX12_game 2 RX12) (hr : meth.sig.returnType = some .int) (N : Nat) {h : Int64} {r : Int32} {u : St} : ∀ (n : Nat) (x1 : Int32) (σ : St) (H : Heap) (locs : List Loc) (ls : Array Slot), lv_has ls 2 [(0, .ref (g.2.2 31)), (1, .int x1)] → va_P g.1 vwCl (wM g h σ) H → va_S A s.heap H locs → L_X12_game_151 N n x1 σ = some (r, u) → W p l e rm_X12_game s m args below meth c H locs 0 0 (MQ below (QiM g h A r u) args s 0 0 A) (F0 m 151 ls []) := by
  intro n
  induction n with
  | zero =>
    intro x1 σ H locs ls hl hP hS hD
    rw [L_X12_game_151] at hD
    cases hD
  | succ n ih =>
    intro x1 σ H locs ls hl hP hS hD
    rw [L_X12_game_151] at hD
    refine lv_iload_n C.1 C.2.1 dX12_game_151 rfl (lv_at hl 1 rfl) ?_
    refine lv_aload_n C.1 C.2.1 dX12_game_152 rfl (lv_at hl 0 rfl) ?_
    refine gf_X12_87_31 C hP dX12_game_153 ?_
    refine lv_icmp_ge (tgt := 182) C.1 C.2.1 dX12_game_156 (by decide) (fun c9 => ?_) (fun c9 => ?_)
    · have hD := b_t c9 hD
      refine lv_aload_n C.1 C.2.1 dX12_game_182 rfl (lv_at hl 0 rfl) ?_
      refine lv_iconst (v := (0 : Int32)) C.1 C.2.1 dX12_game_183 (by decide) ?_
      refine pf_X12_93_31 C hP hS dX12_game_184 (fun H locs hP hS => ?_)
      refine lv_aload_n C.1 C.2.1 dX12_game_187 rfl (lv_at hl 0 rfl) ?_
      refine lv_dup C.1 C.2.1 dX12_game_188 rfl ?_
      refine gf_X12_96_31 C hP dX12_game_189 ?_
      refine w_rd (show (pt σ 31 8 (0 : Int32)) 31 9 = σ 31 9 from rfl) ?_
      refine lv_iconst (v := (1 : Int32)) C.1 C.2.1 dX12_game_192 (by decide) ?_
      refine lv_iadd C.1 C.2.1 dX12_game_193 ?_
      refine pf_X12_96_31 C hP hS dX12_game_194 (fun H locs hP hS => ?_)
      refine lv_aload_n C.1 C.2.1 dX12_game_197 rfl (lv_at hl 0 rfl) ?_
      refine lv_iconst (v := (0 : Int32)) C.1 C.2.1 dX12_game_198 (by decide) ?_
      refine pf_X12_50_31 C hP hS dX12_game_199 (fun H locs hP hS => ?_)
      refine lv_aload_n C.1 C.2.1 dX12_game_202 rfl (lv_at hl 0 rfl) ?_
      refine gf_X12_90_31 C hP dX12_game_203 ?_
      refine w_rd (show (pt (pt (pt σ 31 8 (0 : Int32)) 31 9 ((σ 31 9) + (1 : Int32))) 31 1 (0 : Int32)) 31 5 = σ 31 5 from rfl) ?_
      cases hD
      exact ri_M C hr hP hS dX12_game_206
    · have hD := b_f c9 hD
      refine lv_aload_n C.1 C.2.1 dX12_game_159 rfl (lv_at hl 0 rfl) ?_
      refine gf_X12_13_31 C hP dX12_game_160 ?_
      refine lv_iload_n C.1 C.2.1 dX12_game_163 rfl (lv_at hl 1 rfl) ?_
      refine lv_aload_n C.1 C.2.1 dX12_game_164 rfl (lv_at hl 0 rfl) ?_
      refine gf_X12_7_31 C hP dX12_game_165 ?_
      refine lv_iconst (v := (3 : Int32)) C.1 C.2.1 dX12_game_168 (by decide) ?_
      refine lv_iload_n C.1 C.2.1 dX12_game_169 rfl (lv_at hl 1 rfl) ?_
      refine lv_iadd C.1 C.2.1 dX12_game_170 ?_
      obtain ⟨hi10, hD⟩ := gi_some hD
      refine iaM C hP 1 rfl hi10 dX12_game_171 ?_
      obtain ⟨r11, hd11, hD⟩ := bp_some hD
      refine kSi_M (As := [.int (σ 32 (((3 : Int32) + x1).toNatClampNeg))]) (rest := [.int x1, .ref (g.2.2 33)]) C (c_X12_kindBy l g H.size σ (σ 32 (((3 : Int32) + x1).toNatClampNeg)) hd11) kw_X12_56 ⟨rfl, rfl⟩ ⟨Nat.le_of_ble_eq_true rfl, Nat.le_of_ble_eq_true rfl⟩ ks_X12_kindBy rfl hl.1 (Nat.le_of_ble_eq_true rfl) ⟨Nat.zero_le _, Nat.zero_le _⟩ dX12_game_172 hP hS rfl (fun H locs hP hS => ?_)
      obtain ⟨hi12, hD⟩ := gi_some hD
      refine isM C hP hS 2 rfl hi12 dX12_game_175 st_33 (fun H locs hP hS => ?_)
      refine lv_iinc (v := x1 + (1 : Int32)) (lv' := [(1, .int (x1 + (1 : Int32))), (0, .ref (g.2.2 31))]) C.1 C.2.1 dX12_game_176 hl (k := 1) rfl rfl (by decide) rfl (fun ls hl => ?_)
      refine lv_goto (tgt := 151) C.1 C.2.1 dX12_game_179 (by decide) ?_
      exact ih (x1 + (1 : Int32)) (pt σ 33 x1.toNatClampNeg r11) H locs ls (lv_sub hl [1, 0] rfl) hP hS hD
set_option maxHeartbeats 4000000 in
set_option maxRecDepth 100000 in
theorem w_L_X12_game_92 (C : CM g A p s m args meth c cX12_game 2 RX12) (hr : meth.sig.returnType = some .int) (N : Nat) {h : Int64} {r : Int32} {u : St} : ∀ (n : Nat) (x1 : Int32) (σ : St) (H : Heap) (locs : List Loc) (ls : Array Slot), lv_has ls 2 [(0, .ref (g.2.2 31)), (1, .int x1)] → va_P g.1 vwCl (wM g h σ) H → va_S A s.heap H locs → L_X12_game_92 N n x1 σ = some (r, u) → W p l e rm_X12_game s m args below meth c H locs 0 0 (MQ below (QiM g h A r u) args s 0 0 A) (F0 m 92 ls []) := by
  intro n
  induction n with
  | zero =>
    intro x1 σ H locs ls hl hP hS hD
    rw [L_X12_game_92] at hD
    cases hD
  | succ n ih =>
    intro x1 σ H locs ls hl hP hS hD
    rw [L_X12_game_92] at hD
    refine lv_iload_n C.1 C.2.1 dX12_game_92 rfl (lv_at hl 1 rfl) ?_
    refine lv_aload_n C.1 C.2.1 dX12_game_93 rfl (lv_at hl 0 rfl) ?_
    refine gf_X12_81_31 C hP dX12_game_94 ?_
    refine lv_icmp_ge (tgt := 149) C.1 C.2.1 dX12_game_97 (by decide) (fun c8 => ?_) (fun c8 => ?_)
    · have hD := b_t c8 hD
      refine lv_iconst (v := (0 : Int32)) C.1 C.2.1 dX12_game_149 (by decide) ?_
      refine lv_istore_n (lv' := [(1, .int (0 : Int32)), (0, .ref (g.2.2 31))]) C.1 C.2.1 dX12_game_150 rfl hl (by decide) rfl (fun ls hl => ?_)
      exact w_L_X12_game_151 C hr N N (0 : Int32) σ H locs ls (lv_sub hl [1, 0] rfl) hP hS hD
    · have hD := b_f c8 hD
      refine lv_aload_n C.1 C.2.1 dX12_game_100 rfl (lv_at hl 0 rfl) ?_
      refine lv_dup C.1 C.2.1 dX12_game_101 rfl ?_
      refine gf_X12_90_31 C hP dX12_game_102 ?_
      refine lv_aload_n C.1 C.2.1 dX12_game_105 rfl (lv_at hl 0 rfl) ?_
      refine gf_X12_84_31 C hP dX12_game_106 ?_
      refine lv_imul C.1 C.2.1 dX12_game_109 ?_
      refine pf_X12_90_31 C hP hS dX12_game_110 (fun H locs hP hS => ?_)
      refine lv_aload_n C.1 C.2.1 dX12_game_113 rfl (lv_at hl 0 rfl) ?_
      refine lv_aload_n C.1 C.2.1 dX12_game_114 rfl (lv_at hl 0 rfl) ?_
      refine gf_X12_41_31 C hP dX12_game_115 ?_
      refine w_rd (show (pt σ 31 5 ((σ 31 5) * (σ 31 4))) 31 7 = σ 31 7 from rfl) ?_
      refine lv_aload_n C.1 C.2.1 dX12_game_118 rfl (lv_at hl 0 rfl) ?_
      refine gf_X12_84_31 C hP dX12_game_119 ?_
      refine w_rd (show (pt σ 31 5 ((σ 31 5) * (σ 31 4))) 31 4 = σ 31 4 from rfl) ?_
      refine lv_imul C.1 C.2.1 dX12_game_122 ?_
      refine lv_aload_n C.1 C.2.1 dX12_game_123 rfl (lv_at hl 0 rfl) ?_
      refine gf_X12_7_31 C hP dX12_game_124 ?_
      refine lv_aload_n C.1 C.2.1 dX12_game_127 rfl (lv_at hl 0 rfl) ?_
      refine gf_X12_53_31 C hP dX12_game_128 ?_
      refine w_rd (show (pt σ 31 5 ((σ 31 5) * (σ 31 4))) 31 2 = σ 31 2 from rfl) ?_
      refine lv_iconst (v := (1 : Int32)) C.1 C.2.1 dX12_game_131 (by decide) ?_
      refine lv_iadd C.1 C.2.1 dX12_game_132 ?_
      refine lv_iload_n C.1 C.2.1 dX12_game_133 rfl (lv_at hl 1 rfl) ?_
      refine lv_iadd C.1 C.2.1 dX12_game_134 ?_
      obtain ⟨hi13, hD⟩ := gi_some hD
      refine iaM C hP 1 rfl hi13 dX12_game_135 ?_
      refine w_rd (show (pt σ 31 5 ((σ 31 5) * (σ 31 4))) 32 ((((σ 31 2) + (1 : Int32)) + x1).toNatClampNeg) = σ 32 ((((σ 31 2) + (1 : Int32)) + x1).toNatClampNeg) from rfl) ?_
      refine lv_iadd C.1 C.2.1 dX12_game_136 ?_
      refine lv_bipush (v := (97 : Int32)) C.1 C.2.1 dX12_game_137 (by decide) ?_
      refine lv_isub C.1 C.2.1 dX12_game_139 ?_
      refine pf_X12_41_31 C hP hS dX12_game_140 (fun H locs hP hS => ?_)
      refine lv_iinc (v := x1 + (1 : Int32)) (lv' := [(1, .int (x1 + (1 : Int32))), (0, .ref (g.2.2 31))]) C.1 C.2.1 dX12_game_143 hl (k := 1) rfl rfl (by decide) rfl (fun ls hl => ?_)
      refine lv_goto (tgt := 92) C.1 C.2.1 dX12_game_146 (by decide) ?_
      exact ih (x1 + (1 : Int32)) (pt (pt σ 31 5 ((σ 31 5) * (σ 31 4))) 31 7 ((((σ 31 7) * (σ 31 4)) + (σ 32 ((((σ 31 2) + (1 : Int32)) + x1).toNatClampNeg))) - (97 : Int32))) H locs ls (lv_sub hl [1, 0] rfl) hP hS hD
set_option maxHeartbeats 4000000 in
set_option maxRecDepth 100000 in
theorem c_X12_game (l : Launch) (g : Gx) (sz : Nat) (N : Nat) (σ : St) {h : Int64} {r : Int32} {u : St} (hD : D_X12_game N σ = some (r, u)) : Met l yX12_game (Cond.code yX12_game cX12_game 2 (some .int) :: tb) rm_X12_game (PcM g h [.ref (g.2.2 31)] σ sz) (QiM g h (AM g sz) r u) 0 0 (AM g sz) := by
  refine Met.ofW (cc := cX12_game) (maxL := 2) (ret := some .int) (by decide) rfl ?_
  intro p e s m args below meth c s₁ B hml hv
  have hv0 := hv
  obtain ⟨rfl, hsz, hP, -⟩ := hv
  subst hsz
  have C : CM g (AM g s.heap.size) p s m _ meth c cX12_game 2 RX12 := CM.of B hml (fun w h => List.mem_cons_of_mem _ h) rfl hv0
  have hr := B.returns
  have hS : va_S (AM g s.heap.size) s.heap s.heap [] := va_S.rf
  have hl := lv_entry ([.ref (g.2.2 31)]) (n := 2) (Nat.le_of_ble_eq_true rfl)
  rw [lg_entry_eq]
  generalize (lg_sl ([.ref (g.2.2 31)]) ++ List.replicate (2 - (lg_sl ([.ref (g.2.2 31)])).length) Slot.unset).toArray = ls at hl ⊢
  have hl : lv_has ls 2 [(0, .ref (g.2.2 31))] := hl
  obtain ⟨H, hH⟩ : ∃ H, H = s.heap := ⟨_, rfl⟩
  have hP : va_P g.1 vwCl (wM g h σ) H := by rw [hH]; exact hP
  have hS : va_S (AM g s.heap.size) s.heap H [] := by rw [hH]; exact hS
  refine wH hH ?_
  obtain ⟨locs, hlo⟩ : ∃ locs : List Loc, locs = [] := ⟨_, rfl⟩
  rw [← hlo] at hS
  refine wL hlo ?_
  unfold D_X12_game at hD
  refine lv_aload_n C.1 C.2.1 dX12_game_0 rfl (lv_at hl 0 rfl) ?_
  obtain ⟨r1, s1, hd1, hD⟩ := bs_some hD
  refine kVi_M (As := []) (rest := []) (ci := 12) (q0 := 0) C (c_X12_faultOf l g H.size N σ hd1) kw_X12_77 ⟨rfl, rfl⟩ ⟨Nat.le_of_ble_eq_true rfl, Nat.le_of_ble_eq_true rfl⟩ kv_X12_faultOf rfl rfl rfl hl.1 (Nat.le_of_ble_eq_true rfl) ⟨Nat.zero_le _, Nat.zero_le _⟩ dX12_game_1 hP hS rfl (fun H locs hP hS => ?_)
  refine lv_aload_n C.1 C.2.1 dX12_game_4 rfl (lv_at hl 0 rfl) ?_
  refine gf_X12_50_31 C hP dX12_game_5 ?_
  refine lv_icmp_lt (tgt := 41) C.1 C.2.1 dX12_game_8 (by decide) (fun c2 => ?_) (fun c2 => ?_)
  · have hD := b_t c2 hD
    refine lv_bipush (v := (-103 : Int32)) C.1 C.2.1 dX12_game_41 (by decide) ?_
    cases hD
    exact ri_M C hr hP hS dX12_game_43
  · have hD := b_f c2 hD
    refine lv_aload_n C.1 C.2.1 dX12_game_11 rfl (lv_at hl 0 rfl) ?_
    refine gf_X12_53_31 C hP dX12_game_12 ?_
    refine lv_if_eq (tgt := 41) C.1 C.2.1 dX12_game_15 (by decide) (fun c3 => ?_) (fun c3 => ?_)
    · have hD := b_t c3 hD
      refine lv_bipush (v := (-103 : Int32)) C.1 C.2.1 dX12_game_41 (by decide) ?_
      cases hD
      exact ri_M C hr hP hS dX12_game_43
    · have hD := b_f c3 hD
      refine lv_aload_n C.1 C.2.1 dX12_game_18 rfl (lv_at hl 0 rfl) ?_
      refine gf_X12_50_31 C hP dX12_game_19 ?_
      refine lv_aload_n C.1 C.2.1 dX12_game_22 rfl (lv_at hl 0 rfl) ?_
      refine gf_X12_53_31 C hP dX12_game_23 ?_
      refine lv_isub C.1 C.2.1 dX12_game_26 ?_
      refine lv_iconst (v := (1 : Int32)) C.1 C.2.1 dX12_game_27 (by decide) ?_
      refine lv_isub C.1 C.2.1 dX12_game_28 ?_
      refine lv_aload_n C.1 C.2.1 dX12_game_29 rfl (lv_at hl 0 rfl) ?_
      refine gf_X12_7_31 C hP dX12_game_30 ?_
      refine lv_iconst (v := (0 : Int32)) C.1 C.2.1 dX12_game_33 (by decide) ?_
      obtain ⟨hi4, hD⟩ := gi_some hD
      refine iaM C hP 1 rfl hi4 dX12_game_34 ?_
      refine lv_bipush (v := (48 : Int32)) C.1 C.2.1 dX12_game_35 (by decide) ?_
      refine lv_isub C.1 C.2.1 dX12_game_37 ?_
      refine lv_icmp_eq (tgt := 44) C.1 C.2.1 dX12_game_38 (by decide) (fun c5 => ?_) (fun c5 => ?_)
      · have hD := b_t c5 hD
        refine lv_aload_n C.1 C.2.1 dX12_game_44 rfl (lv_at hl 0 rfl) ?_
        refine lv_aload_n C.1 C.2.1 dX12_game_45 rfl (lv_at hl 0 rfl) ?_
        refine gf_X12_7_31 C hP dX12_game_46 ?_
        refine lv_iconst (v := (0 : Int32)) C.1 C.2.1 dX12_game_49 (by decide) ?_
        obtain ⟨hi6, hD⟩ := gi_some hD
        refine iaM C hP 1 rfl hi6 dX12_game_50 ?_
        refine lv_bipush (v := (48 : Int32)) C.1 C.2.1 dX12_game_51 (by decide) ?_
        refine lv_isub C.1 C.2.1 dX12_game_53 ?_
        refine pf_X12_81_31 C hP hS dX12_game_54 (fun H locs hP hS => ?_)
        refine lv_aload_n C.1 C.2.1 dX12_game_57 rfl (lv_at hl 0 rfl) ?_
        refine lv_aload_n C.1 C.2.1 dX12_game_58 rfl (lv_at hl 0 rfl) ?_
        refine gf_X12_7_31 C hP dX12_game_59 ?_
        refine lv_iconst (v := (1 : Int32)) C.1 C.2.1 dX12_game_62 (by decide) ?_
        obtain ⟨hi7, hD⟩ := gi_some hD
        refine iaM C hP 1 rfl hi7 dX12_game_63 ?_
        refine w_rd (show (pt s1 31 3 ((s1 32 ((0 : Int32).toNatClampNeg)) - (48 : Int32))) 32 ((1 : Int32).toNatClampNeg) = s1 32 ((1 : Int32).toNatClampNeg) from rfl) ?_
        refine lv_bipush (v := (48 : Int32)) C.1 C.2.1 dX12_game_64 (by decide) ?_
        refine lv_isub C.1 C.2.1 dX12_game_66 ?_
        refine pf_X12_84_31 C hP hS dX12_game_67 (fun H locs hP hS => ?_)
        refine lv_aload_n C.1 C.2.1 dX12_game_70 rfl (lv_at hl 0 rfl) ?_
        refine lv_aload_n C.1 C.2.1 dX12_game_71 rfl (lv_at hl 0 rfl) ?_
        refine gf_X12_53_31 C hP dX12_game_72 ?_
        refine w_rd (show (pt (pt s1 31 3 ((s1 32 ((0 : Int32).toNatClampNeg)) - (48 : Int32))) 31 4 ((s1 32 ((1 : Int32).toNatClampNeg)) - (48 : Int32))) 31 2 = s1 31 2 from rfl) ?_
        refine lv_iconst (v := (3 : Int32)) C.1 C.2.1 dX12_game_75 (by decide) ?_
        refine lv_isub C.1 C.2.1 dX12_game_76 ?_
        refine pf_X12_87_31 C hP hS dX12_game_77 (fun H locs hP hS => ?_)
        refine lv_aload_n C.1 C.2.1 dX12_game_80 rfl (lv_at hl 0 rfl) ?_
        refine lv_iconst (v := (1 : Int32)) C.1 C.2.1 dX12_game_81 (by decide) ?_
        refine pf_X12_90_31 C hP hS dX12_game_82 (fun H locs hP hS => ?_)
        refine lv_aload_n C.1 C.2.1 dX12_game_85 rfl (lv_at hl 0 rfl) ?_
        refine lv_iconst (v := (0 : Int32)) C.1 C.2.1 dX12_game_86 (by decide) ?_
        refine pf_X12_41_31 C hP hS dX12_game_87 (fun H locs hP hS => ?_)
        refine lv_iconst (v := (0 : Int32)) C.1 C.2.1 dX12_game_90 (by decide) ?_
        refine lv_istore_n (lv' := [(1, .int (0 : Int32)), (0, .ref (g.2.2 31))]) C.1 C.2.1 dX12_game_91 rfl hl (by decide) rfl (fun ls hl => ?_)
        exact w_L_X12_game_92 C hr N N (0 : Int32) (pt (pt (pt (pt (pt s1 31 3 ((s1 32 ((0 : Int32).toNatClampNeg)) - (48 : Int32))) 31 4 ((s1 32 ((1 : Int32).toNatClampNeg)) - (48 : Int32))) 31 6 ((s1 31 2) - (3 : Int32))) 31 5 (1 : Int32)) 31 7 (0 : Int32)) H locs ls (lv_sub hl [1, 0] rfl) hP hS hD
      · have hD := b_f c5 hD
        refine lv_bipush (v := (-103 : Int32)) C.1 C.2.1 dX12_game_41 (by decide) ?_
        cases hD
        exact ri_M C hr hP hS dX12_game_43
abbrev rm_X12_isRow : Room := { frames := 1, cells := 0, slots := 0, locals := 25 }
set_option maxHeartbeats 4000000 in
set_option maxRecDepth 100000 in
theorem c_X12_isRow (l : Launch) (g : Gx) (sz : Nat) (σ : St) (x1 : Int32) {h : Int64} {r : Int32} (hD : D_X12_isRow σ x1 = some r) : Met l yX12_isRow (Cond.code yX12_isRow cX12_isRow 2 (some .boolean) :: tb) rm_X12_isRow (PcM g h [.ref (g.2.2 31), .int x1] σ sz) (QiM g h (AM g sz) r σ) 0 0 (AM g sz) := by
  refine Met.ofW (cc := cX12_isRow) (maxL := 2) (ret := some .boolean) (by decide) rfl ?_
  intro p e s m args below meth c s₁ B hml hv
  have hv0 := hv
  obtain ⟨rfl, hsz, hP, -⟩ := hv
  subst hsz
  have C : CM g (AM g s.heap.size) p s m _ meth c cX12_isRow 2 RX12 := CM.of B hml (fun w h => List.mem_cons_of_mem _ h) rfl hv0
  have hr := B.returns
  have hS : va_S (AM g s.heap.size) s.heap s.heap [] := va_S.rf
  have hl := lv_entry ([.ref (g.2.2 31), .int x1]) (n := 2) (Nat.le_of_ble_eq_true rfl)
  rw [lg_entry_eq]
  generalize (lg_sl ([.ref (g.2.2 31), .int x1]) ++ List.replicate (2 - (lg_sl ([.ref (g.2.2 31), .int x1])).length) Slot.unset).toArray = ls at hl ⊢
  have hl : lv_has ls 2 [(0, .ref (g.2.2 31)), (1, .int x1)] := hl
  obtain ⟨H, hH⟩ : ∃ H, H = s.heap := ⟨_, rfl⟩
  have hP : va_P g.1 vwCl (wM g h σ) H := by rw [hH]; exact hP
  have hS : va_S (AM g s.heap.size) s.heap H [] := by rw [hH]; exact hS
  refine wH hH ?_
  obtain ⟨locs, hlo⟩ : ∃ locs : List Loc, locs = [] := ⟨_, rfl⟩
  rw [← hlo] at hS
  refine wL hlo ?_
  unfold D_X12_isRow at hD
  refine lv_iload_n C.1 C.2.1 dX12_isRow_0 rfl (lv_at hl 1 rfl) ?_
  refine lv_i2l C.1 C.2.1 dX12_isRow_1 rfl ?_
  refine lv_lconst (v := (0 : Int64)) C.1 C.2.1 dX12_isRow_2 (by decide) ?_
  refine lv_aload_n C.1 C.2.1 dX12_isRow_3 rfl (lv_at hl 0 rfl) ?_
  refine gf_X12_90_31 C hP dX12_isRow_4 ?_
  refine lv_iconst (v := (1 : Int32)) C.1 C.2.1 dX12_isRow_7 (by decide) ?_
  refine lv_isub C.1 C.2.1 dX12_isRow_8 ?_
  refine lv_i2l C.1 C.2.1 dX12_isRow_9 rfl ?_
  obtain ⟨r1, hd1, hD⟩ := bp_some hD
  refine kSi_M (As := [.long x1.toInt64, .long (0 : Int64), .long (((σ 31 5) - (1 : Int32)).toInt64)]) (rest := []) C (c_X12_in l g H.size σ x1.toInt64 (0 : Int64) (((σ 31 5) - (1 : Int32)).toInt64) hd1) kw_X12_46 ⟨rfl, rfl⟩ ⟨Nat.le_of_ble_eq_true rfl, Nat.le_of_ble_eq_true rfl⟩ ks_X12_in rfl hl.1 (Nat.le_of_ble_eq_true rfl) ⟨Nat.zero_le _, Nat.zero_le _⟩ dX12_isRow_10 hP hS rfl (fun H locs hP hS => ?_)
  obtain ⟨hb2, hD⟩ := gb_some hD
  cases hD
  exact rz_M C hr hb2 hP hS dX12_isRow_13
abbrev rm_X12_hide : Room := { frames := 2, cells := 0, slots := 0, locals := 46 }
set_option maxHeartbeats 4000000 in
set_option maxRecDepth 100000 in
theorem c_X12_hide (l : Launch) (g : Gx) (sz : Nat) (σ : St) (x1 : Int32) {h : Int64} {r : Int32} {u : St} (hD : D_X12_hide σ x1 = some (r, u)) : Met l yX12_hide (Cond.code yX12_hide cX12_hide 3 (some .int) :: tb) rm_X12_hide (PcM g h [.ref (g.2.2 31), .int x1] σ sz) (QiM g h (AM g sz) r u) 0 0 (AM g sz) := by
  refine Met.ofW (cc := cX12_hide) (maxL := 3) (ret := some .int) (by decide) rfl ?_
  intro p e s m args below meth c s₁ B hml hv
  have hv0 := hv
  obtain ⟨rfl, hsz, hP, -⟩ := hv
  subst hsz
  have C : CM g (AM g s.heap.size) p s m _ meth c cX12_hide 3 RX12 := CM.of B hml (fun w h => List.mem_cons_of_mem _ h) rfl hv0
  have hr := B.returns
  have hS : va_S (AM g s.heap.size) s.heap s.heap [] := va_S.rf
  have hl := lv_entry ([.ref (g.2.2 31), .int x1]) (n := 3) (Nat.le_of_ble_eq_true rfl)
  rw [lg_entry_eq]
  generalize (lg_sl ([.ref (g.2.2 31), .int x1]) ++ List.replicate (3 - (lg_sl ([.ref (g.2.2 31), .int x1])).length) Slot.unset).toArray = ls at hl ⊢
  have hl : lv_has ls 3 [(0, .ref (g.2.2 31)), (1, .int x1)] := hl
  obtain ⟨H, hH⟩ : ∃ H, H = s.heap := ⟨_, rfl⟩
  have hP : va_P g.1 vwCl (wM g h σ) H := by rw [hH]; exact hP
  have hS : va_S (AM g s.heap.size) s.heap H [] := by rw [hH]; exact hS
  refine wH hH ?_
  obtain ⟨locs, hlo⟩ : ∃ locs : List Loc, locs = [] := ⟨_, rfl⟩
  rw [← hlo] at hS
  refine wL hlo ?_
  unfold D_X12_hide at hD
  refine lv_aload_n C.1 C.2.1 dX12_hide_0 rfl (lv_at hl 0 rfl) ?_
  refine lv_iload_n C.1 C.2.1 dX12_hide_1 rfl (lv_at hl 1 rfl) ?_
  obtain ⟨r1, hd1, hD⟩ := bp_some hD
  refine kVi_M (As := [.int x1]) (rest := []) (ci := 12) (q0 := 0) C (c_X12_isRow l g H.size σ x1 hd1) kw_X12_113 ⟨rfl, rfl⟩ ⟨Nat.le_of_ble_eq_true rfl, Nat.le_of_ble_eq_true rfl⟩ kv_X12_isRow rfl rfl rfl hl.1 (Nat.le_of_ble_eq_true rfl) ⟨Nat.zero_le _, Nat.zero_le _⟩ dX12_hide_2 hP hS rfl (fun H locs hP hS => ?_)
  refine lv_if_ne (tgt := 11) C.1 C.2.1 dX12_hide_5 (by decide) (fun c2 => ?_) (fun c2 => ?_)
  · have hD := b_f c2 hD
    refine lv_aload_n C.1 C.2.1 dX12_hide_11 rfl (lv_at hl 0 rfl) ?_
    refine gf_X12_41_31 C hP dX12_hide_12 ?_
    refine lv_istore_n (lv' := [(2, .int (σ 31 7)), (0, .ref (g.2.2 31)), (1, .int x1)]) C.1 C.2.1 dX12_hide_15 rfl hl (by decide) rfl (fun ls hl => ?_)
    refine lv_aload_n C.1 C.2.1 dX12_hide_16 rfl (lv_at hl 1 rfl) ?_
    refine lv_iload_n C.1 C.2.1 dX12_hide_17 rfl (lv_at hl 2 rfl) ?_
    refine pf_X12_41_31 C hP hS dX12_hide_18 (fun H locs hP hS => ?_)
    refine lv_iload_n C.1 C.2.1 dX12_hide_21 rfl (lv_at hl 0 rfl) ?_
    cases hD
    exact ri_M C hr hP hS dX12_hide_22
  · have hD := b_t c2 hD
    refine lv_bipush (v := (-101 : Int32)) C.1 C.2.1 dX12_hide_8 (by decide) ?_
    cases hD
    exact ri_M C hr hP hS dX12_hide_10
abbrev rm_X12_longOf : Room := { frames := 5, cells := 0, slots := 0, locals := 123 }
set_option maxHeartbeats 4000000 in
set_option maxRecDepth 100000 in
theorem w_L_X12_longOf_51 (C : CM g A p s m args meth c cX12_longOf 7 RX12) (hr : meth.sig.returnType = some .int) (N : Nat) {h : Int64} {r : Int32} {u : St} (kc25 : Int32 → St → Option (Int32 × St)) (x1 : Int32) (x2 : Int32) (x3 : Int32) (x4 : Int32) (x5 : Int32) (hk25 : ∀ (x3 : Int32) (σ : St) (H : Heap) (locs : List Loc) (ls : Array Slot), lv_has ls 7 [(0, .ref (g.2.2 31)), (1, .int x1), (2, .int x2), (3, .int x3)] → va_P g.1 vwCl (wM g h σ) H → va_S A s.heap H locs → kc25 x3 σ = some (r, u) → W p l e rm_X12_longOf s m args below meth c H locs 0 0 (MQ below (QiM g h A r u) args s 0 0 A) (F0 m 25 ls [])) : ∀ (n : Nat) (x6 : Int32) (σ : St) (H : Heap) (locs : List Loc) (ls : Array Slot), lv_has ls 7 [(0, .ref (g.2.2 31)), (1, .int x1), (2, .int x2), (3, .int x3), (4, .int x4), (5, .int x5), (6, .int x6)] → va_P g.1 vwCl (wM g h σ) H → va_S A s.heap H locs → L_X12_longOf_51 N kc25 x1 x2 x3 x4 x5 n x6 σ = some (r, u) → W p l e rm_X12_longOf s m args below meth c H locs 0 0 (MQ below (QiM g h A r u) args s 0 0 A) (F0 m 51 ls []) := by
  intro n
  induction n with
  | zero =>
    intro x6 σ H locs ls hl hP hS hD
    rw [L_X12_longOf_51] at hD
    cases hD
  | succ n ih =>
    intro x6 σ H locs ls hl hP hS hD
    rw [L_X12_longOf_51] at hD
    refine lv_iload C.1 C.2.1 dX12_longOf_51 (lv_at hl 6 rfl) ?_
    refine lv_aload_n C.1 C.2.1 dX12_longOf_53 rfl (lv_at hl 0 rfl) ?_
    refine gf_X12_90_31 C hP dX12_longOf_54 ?_
    refine lv_icmp_ge (tgt := 103) C.1 C.2.1 dX12_longOf_57 (by decide) (fun c5 => ?_) (fun c5 => ?_)
    · have hD := b_t c5 hD
      refine lv_aload_n C.1 C.2.1 dX12_longOf_103 rfl (lv_at hl 0 rfl) ?_
      obtain ⟨r6, hd6, hD⟩ := bp_some hD
      refine kVi_M (As := []) (rest := []) (ci := 12) (q0 := 0) C (c_X12_fitMany l g H.size N σ hd6) kw_X12_126 ⟨rfl, rfl⟩ ⟨Nat.le_of_ble_eq_true rfl, Nat.le_of_ble_eq_true rfl⟩ kv_X12_fitMany rfl rfl rfl hl.1 (Nat.le_of_ble_eq_true rfl) ⟨Nat.zero_le _, Nat.zero_le _⟩ dX12_longOf_104 hP hS rfl (fun H locs hP hS => ?_)
      refine lv_iconst (v := (1 : Int32)) C.1 C.2.1 dX12_longOf_107 (by decide) ?_
      refine lv_icmp_ne (tgt := 113) C.1 C.2.1 dX12_longOf_108 (by decide) (fun c7 => ?_) (fun c7 => ?_)
      · have hD := b_f c7 hD
        refine lv_iinc (v := x3 + (1 : Int32)) (lv' := [(3, .int (x3 + (1 : Int32))), (0, .ref (g.2.2 31)), (1, .int x1), (2, .int x2), (4, .int x4), (5, .int x5), (6, .int x6)]) C.1 C.2.1 dX12_longOf_113 hl (k := 3) rfl rfl (by decide) rfl (fun ls hl => ?_)
        refine lv_goto (tgt := 25) C.1 C.2.1 dX12_longOf_116 (by decide) ?_
        exact hk25 (x3 + (1 : Int32)) σ H locs ls (lv_sub hl [1, 2, 3, 0] rfl) hP hS hD
      · have hD := b_t c7 hD
        refine lv_iload_n C.1 C.2.1 dX12_longOf_111 rfl (lv_at hl 3 rfl) ?_
        cases hD
        exact ri_M C hr hP hS dX12_longOf_112
    · have hD := b_f c5 hD
      refine lv_aload_n C.1 C.2.1 dX12_longOf_60 rfl (lv_at hl 0 rfl) ?_
      refine gf_X12_19_31 C hP dX12_longOf_61 ?_
      refine lv_iload C.1 C.2.1 dX12_longOf_64 (lv_at hl 6 rfl) ?_
      refine lv_aload_n C.1 C.2.1 dX12_longOf_66 rfl (lv_at hl 0 rfl) ?_
      refine gf_X12_19_31 C hP dX12_longOf_67 ?_
      refine lv_iload C.1 C.2.1 dX12_longOf_70 (lv_at hl 6 rfl) ?_
      obtain ⟨hi8, hD⟩ := gi_some hD
      refine iaM C hP 4 rfl hi8 dX12_longOf_72 ?_
      refine lv_iconst (v := (1 : Int32)) C.1 C.2.1 dX12_longOf_73 (by decide) ?_
      refine lv_icmp_ne (tgt := 95) C.1 C.2.1 dX12_longOf_74 (by decide) (fun c9 => ?_) (fun c9 => ?_)
      · have hD := b_f c9 hD
        refine lv_iconst (v := (0 : Int32)) C.1 C.2.1 dX12_longOf_95 (by decide) ?_
        obtain ⟨hi10, hD⟩ := gi_some hD
        refine isM C hP hS 4 rfl hi10 dX12_longOf_96 st_35 (fun H locs hP hS => ?_)
        refine lv_iinc (v := x6 + (1 : Int32)) (lv' := [(6, .int (x6 + (1 : Int32))), (0, .ref (g.2.2 31)), (1, .int x1), (2, .int x2), (3, .int x3), (4, .int x4), (5, .int x5)]) C.1 C.2.1 dX12_longOf_97 hl (k := 6) rfl rfl (by decide) rfl (fun ls hl => ?_)
        refine lv_goto (tgt := 51) C.1 C.2.1 dX12_longOf_100 (by decide) ?_
        exact ih (x6 + (1 : Int32)) (pt σ 35 x6.toNatClampNeg (0 : Int32)) H locs ls (lv_sub hl [1, 2, 3, 4, 5, 6, 0] rfl) hP hS hD
      · have hD := b_t c9 hD
        refine lv_aload_n C.1 C.2.1 dX12_longOf_77 rfl (lv_at hl 0 rfl) ?_
        refine lv_iload_n C.1 C.2.1 dX12_longOf_78 rfl (lv_at hl 1 rfl) ?_
        refine lv_iload C.1 C.2.1 dX12_longOf_79 (lv_at hl 4 rfl) ?_
        refine lv_iload C.1 C.2.1 dX12_longOf_81 (lv_at hl 6 rfl) ?_
        obtain ⟨r11, hd11, hD⟩ := bp_some hD
        refine kVi_M (As := [.int x1, .int x4, .int x6]) (rest := [.int x6, .ref (g.2.2 35)]) (ci := 12) (q0 := 0) C (c_X12_tellsBy l g H.size N σ x1 x4 x6 hd11) kw_X12_116 ⟨rfl, rfl⟩ ⟨Nat.le_of_ble_eq_true rfl, Nat.le_of_ble_eq_true rfl⟩ kv_X12_tellsBy rfl rfl rfl hl.1 (Nat.le_of_ble_eq_true rfl) ⟨Nat.zero_le _, Nat.zero_le _⟩ dX12_longOf_83 hP hS rfl (fun H locs hP hS => ?_)
        refine lv_iload C.1 C.2.1 dX12_longOf_86 (lv_at hl 5 rfl) ?_
        refine lv_icmp_ne (tgt := 95) C.1 C.2.1 dX12_longOf_88 (by decide) (fun c12 => ?_) (fun c12 => ?_)
        · have hD := b_f c12 hD
          refine lv_iconst (v := (0 : Int32)) C.1 C.2.1 dX12_longOf_95 (by decide) ?_
          obtain ⟨hi13, hD⟩ := gi_some hD
          refine isM C hP hS 4 rfl hi13 dX12_longOf_96 st_35 (fun H locs hP hS => ?_)
          refine lv_iinc (v := x6 + (1 : Int32)) (lv' := [(6, .int (x6 + (1 : Int32))), (0, .ref (g.2.2 31)), (1, .int x1), (2, .int x2), (3, .int x3), (4, .int x4), (5, .int x5)]) C.1 C.2.1 dX12_longOf_97 hl (k := 6) rfl rfl (by decide) rfl (fun ls hl => ?_)
          refine lv_goto (tgt := 51) C.1 C.2.1 dX12_longOf_100 (by decide) ?_
          exact ih (x6 + (1 : Int32)) (pt σ 35 x6.toNatClampNeg (0 : Int32)) H locs ls (lv_sub hl [1, 2, 3, 4, 5, 6, 0] rfl) hP hS hD
        · have hD := b_t c12 hD
          refine lv_iconst (v := (1 : Int32)) C.1 C.2.1 dX12_longOf_91 (by decide) ?_
          refine lv_goto (tgt := 96) C.1 C.2.1 dX12_longOf_92 (by decide) ?_
          obtain ⟨hi14, hD⟩ := gi_some hD
          refine isM C hP hS 4 rfl hi14 dX12_longOf_96 st_35 (fun H locs hP hS => ?_)
          refine lv_iinc (v := x6 + (1 : Int32)) (lv' := [(6, .int (x6 + (1 : Int32))), (0, .ref (g.2.2 31)), (1, .int x1), (2, .int x2), (3, .int x3), (4, .int x4), (5, .int x5)]) C.1 C.2.1 dX12_longOf_97 hl (k := 6) rfl rfl (by decide) rfl (fun ls hl => ?_)
          refine lv_goto (tgt := 51) C.1 C.2.1 dX12_longOf_100 (by decide) ?_
          exact ih (x6 + (1 : Int32)) (pt σ 35 x6.toNatClampNeg (1 : Int32)) H locs ls (lv_sub hl [1, 2, 3, 4, 5, 6, 0] rfl) hP hS hD
set_option maxHeartbeats 4000000 in
set_option maxRecDepth 100000 in
theorem w_L_X12_longOf_25 (C : CM g A p s m args meth c cX12_longOf 7 RX12) (hr : meth.sig.returnType = some .int) (N : Nat) {h : Int64} {r : Int32} {u : St} (x1 : Int32) (x2 : Int32) : ∀ (n : Nat) (x3 : Int32) (σ : St) (H : Heap) (locs : List Loc) (ls : Array Slot), lv_has ls 7 [(0, .ref (g.2.2 31)), (1, .int x1), (2, .int x2), (3, .int x3)] → va_P g.1 vwCl (wM g h σ) H → va_S A s.heap H locs → L_X12_longOf_25 N x1 x2 n x3 σ = some (r, u) → W p l e rm_X12_longOf s m args below meth c H locs 0 0 (MQ below (QiM g h A r u) args s 0 0 A) (F0 m 25 ls []) := by
  intro n
  induction n with
  | zero =>
    intro x3 σ H locs ls hl hP hS hD
    rw [L_X12_longOf_25] at hD
    cases hD
  | succ n ih =>
    intro x3 σ H locs ls hl hP hS hD
    rw [L_X12_longOf_25] at hD
    refine lv_iload_n C.1 C.2.1 dX12_longOf_25 rfl (lv_at hl 3 rfl) ?_
    refine lv_bipush (v := (9 : Int32)) C.1 C.2.1 dX12_longOf_26 (by decide) ?_
    refine lv_icmp_ge (tgt := 119) C.1 C.2.1 dX12_longOf_28 (by decide) (fun c2 => ?_) (fun c2 => ?_)
    · have hD := b_t c2 hD
      refine lv_iconst (v := (-1 : Int32)) C.1 C.2.1 dX12_longOf_119 (by decide) ?_
      cases hD
      exact ri_M C hr hP hS dX12_longOf_120
    · have hD := b_f c2 hD
      refine lv_aload_n C.1 C.2.1 dX12_longOf_31 rfl (lv_at hl 0 rfl) ?_
      refine lv_iload_n C.1 C.2.1 dX12_longOf_32 rfl (lv_at hl 1 rfl) ?_
      obtain ⟨r3, s3, hd3, hD⟩ := bs_some hD
      refine kVi_M (As := [.int x1]) (rest := []) (ci := 12) (q0 := 0) C (c_X12_bestBy l g H.size N σ x1 hd3) kw_X12_180 ⟨rfl, rfl⟩ ⟨Nat.le_of_ble_eq_true rfl, Nat.le_of_ble_eq_true rfl⟩ kv_X12_bestBy rfl rfl rfl hl.1 (Nat.le_of_ble_eq_true rfl) ⟨Nat.zero_le _, Nat.zero_le _⟩ dX12_longOf_33 hP hS rfl (fun H locs hP hS => ?_)
      refine lv_istore (lv' := [(4, .int r3), (0, .ref (g.2.2 31)), (1, .int x1), (2, .int x2), (3, .int x3)]) C.1 C.2.1 dX12_longOf_36 hl (by decide) rfl (fun ls hl => ?_)
      refine lv_aload_n C.1 C.2.1 dX12_longOf_38 rfl (lv_at hl 1 rfl) ?_
      refine lv_iload_n C.1 C.2.1 dX12_longOf_39 rfl (lv_at hl 2 rfl) ?_
      refine lv_iload C.1 C.2.1 dX12_longOf_40 (lv_at hl 0 rfl) ?_
      refine lv_iload_n C.1 C.2.1 dX12_longOf_42 rfl (lv_at hl 3 rfl) ?_
      obtain ⟨r4, hd4, hD⟩ := bp_some hD
      refine kVi_M (As := [.int x1, .int r3, .int x2]) (rest := []) (ci := 12) (q0 := 0) C (c_X12_tellsBy l g H.size N s3 x1 r3 x2 hd4) kw_X12_116 ⟨rfl, rfl⟩ ⟨Nat.le_of_ble_eq_true rfl, Nat.le_of_ble_eq_true rfl⟩ kv_X12_tellsBy rfl rfl rfl hl.1 (Nat.le_of_ble_eq_true rfl) ⟨Nat.zero_le _, Nat.zero_le _⟩ dX12_longOf_43 hP hS rfl (fun H locs hP hS => ?_)
      refine lv_istore (lv' := [(5, .int r4), (4, .int r3), (0, .ref (g.2.2 31)), (1, .int x1), (2, .int x2), (3, .int x3)]) C.1 C.2.1 dX12_longOf_46 hl (by decide) rfl (fun ls hl => ?_)
      refine lv_iconst (v := (0 : Int32)) C.1 C.2.1 dX12_longOf_48 (by decide) ?_
      refine lv_istore (lv' := [(6, .int (0 : Int32)), (5, .int r4), (4, .int r3), (0, .ref (g.2.2 31)), (1, .int x1), (2, .int x2), (3, .int x3)]) C.1 C.2.1 dX12_longOf_49 hl (by decide) rfl (fun ls hl => ?_)
      exact w_L_X12_longOf_51 C hr N (L_X12_longOf_25 N x1 x2 n) x1 x2 x3 r3 r4 ih N (0 : Int32) s3 H locs ls (lv_sub hl [3, 4, 5, 6, 2, 1, 0] rfl) hP hS hD
set_option maxHeartbeats 4000000 in
set_option maxRecDepth 100000 in
theorem w_L_X12_longOf_2 (C : CM g A p s m args meth c cX12_longOf 7 RX12) (hr : meth.sig.returnType = some .int) (N : Nat) {h : Int64} {r : Int32} {u : St} (x1 : Int32) (x2 : Int32) : ∀ (n : Nat) (x3 : Int32) (σ : St) (H : Heap) (locs : List Loc) (ls : Array Slot), lv_has ls 7 [(0, .ref (g.2.2 31)), (1, .int x1), (2, .int x2), (3, .int x3)] → va_P g.1 vwCl (wM g h σ) H → va_S A s.heap H locs → L_X12_longOf_2 N x1 x2 n x3 σ = some (r, u) → W p l e rm_X12_longOf s m args below meth c H locs 0 0 (MQ below (QiM g h A r u) args s 0 0 A) (F0 m 2 ls []) := by
  intro n
  induction n with
  | zero =>
    intro x3 σ H locs ls hl hP hS hD
    rw [L_X12_longOf_2] at hD
    cases hD
  | succ n ih =>
    intro x3 σ H locs ls hl hP hS hD
    rw [L_X12_longOf_2] at hD
    refine lv_iload_n C.1 C.2.1 dX12_longOf_2 rfl (lv_at hl 3 rfl) ?_
    refine lv_aload_n C.1 C.2.1 dX12_longOf_3 rfl (lv_at hl 0 rfl) ?_
    refine gf_X12_90_31 C hP dX12_longOf_4 ?_
    refine lv_icmp_ge (tgt := 23) C.1 C.2.1 dX12_longOf_7 (by decide) (fun c1 => ?_) (fun c1 => ?_)
    · have hD := b_t c1 hD
      refine lv_iconst (v := (1 : Int32)) C.1 C.2.1 dX12_longOf_23 (by decide) ?_
      refine lv_istore_n (lv' := [(3, .int (1 : Int32)), (0, .ref (g.2.2 31)), (1, .int x1), (2, .int x2)]) C.1 C.2.1 dX12_longOf_24 rfl hl (by decide) rfl (fun ls hl => ?_)
      exact w_L_X12_longOf_25 C hr N x1 x2 N (1 : Int32) σ H locs ls (lv_sub hl [1, 2, 3, 0] rfl) hP hS hD
    · have hD := b_f c1 hD
      refine lv_aload_n C.1 C.2.1 dX12_longOf_10 rfl (lv_at hl 0 rfl) ?_
      refine gf_X12_19_31 C hP dX12_longOf_11 ?_
      refine lv_iload_n C.1 C.2.1 dX12_longOf_14 rfl (lv_at hl 3 rfl) ?_
      refine lv_iconst (v := (1 : Int32)) C.1 C.2.1 dX12_longOf_15 (by decide) ?_
      obtain ⟨hi15, hD⟩ := gi_some hD
      refine isM C hP hS 4 rfl hi15 dX12_longOf_16 st_35 (fun H locs hP hS => ?_)
      refine lv_iinc (v := x3 + (1 : Int32)) (lv' := [(3, .int (x3 + (1 : Int32))), (0, .ref (g.2.2 31)), (1, .int x1), (2, .int x2)]) C.1 C.2.1 dX12_longOf_17 hl (k := 3) rfl rfl (by decide) rfl (fun ls hl => ?_)
      refine lv_goto (tgt := 2) C.1 C.2.1 dX12_longOf_20 (by decide) ?_
      exact ih (x3 + (1 : Int32)) (pt σ 35 x3.toNatClampNeg (1 : Int32)) H locs ls (lv_sub hl [1, 2, 3, 0] rfl) hP hS hD
set_option maxHeartbeats 4000000 in
set_option maxRecDepth 100000 in
theorem c_X12_longOf (l : Launch) (g : Gx) (sz : Nat) (N : Nat) (σ : St) (x1 : Int32) (x2 : Int32) {h : Int64} {r : Int32} {u : St} (hD : D_X12_longOf N σ x1 x2 = some (r, u)) : Met l yX12_longOf (Cond.code yX12_longOf cX12_longOf 7 (some .int) :: tb) rm_X12_longOf (PcM g h [.ref (g.2.2 31), .int x1, .int x2] σ sz) (QiM g h (AM g sz) r u) 0 0 (AM g sz) := by
  refine Met.ofW (cc := cX12_longOf) (maxL := 7) (ret := some .int) (by decide) rfl ?_
  intro p e s m args below meth c s₁ B hml hv
  have hv0 := hv
  obtain ⟨rfl, hsz, hP, -⟩ := hv
  subst hsz
  have C : CM g (AM g s.heap.size) p s m _ meth c cX12_longOf 7 RX12 := CM.of B hml (fun w h => List.mem_cons_of_mem _ h) rfl hv0
  have hr := B.returns
  have hS : va_S (AM g s.heap.size) s.heap s.heap [] := va_S.rf
  have hl := lv_entry ([.ref (g.2.2 31), .int x1, .int x2]) (n := 7) (Nat.le_of_ble_eq_true rfl)
  rw [lg_entry_eq]
  generalize (lg_sl ([.ref (g.2.2 31), .int x1, .int x2]) ++ List.replicate (7 - (lg_sl ([.ref (g.2.2 31), .int x1, .int x2])).length) Slot.unset).toArray = ls at hl ⊢
  have hl : lv_has ls 7 [(0, .ref (g.2.2 31)), (1, .int x1), (2, .int x2)] := hl
  obtain ⟨H, hH⟩ : ∃ H, H = s.heap := ⟨_, rfl⟩
  have hP : va_P g.1 vwCl (wM g h σ) H := by rw [hH]; exact hP
  have hS : va_S (AM g s.heap.size) s.heap H [] := by rw [hH]; exact hS
  refine wH hH ?_
  obtain ⟨locs, hlo⟩ : ∃ locs : List Loc, locs = [] := ⟨_, rfl⟩
  rw [← hlo] at hS
  refine wL hlo ?_
  unfold D_X12_longOf at hD
  refine lv_iconst (v := (0 : Int32)) C.1 C.2.1 dX12_longOf_0 (by decide) ?_
  refine lv_istore_n (lv' := [(3, .int (0 : Int32)), (0, .ref (g.2.2 31)), (1, .int x1), (2, .int x2)]) C.1 C.2.1 dX12_longOf_1 rfl hl (by decide) rfl (fun ls hl => ?_)
  exact w_L_X12_longOf_2 C hr N x1 x2 N (0 : Int32) σ H locs ls (lv_sub hl [1, 2, 3, 0] rfl) hP hS hD
abbrev rm_X12_howLong : Room := { frames := 6, cells := 0, slots := 0, locals := 149 }
set_option maxHeartbeats 4000000 in
set_option maxRecDepth 100000 in
theorem c_X12_howLong (l : Launch) (g : Gx) (sz : Nat) (N : Nat) (σ : St) (x1 : Int32) (x2 : Int32) {h : Int64} {r : Int32} {u : St} (hD : D_X12_howLong N σ x1 x2 = some (r, u)) : Met l yX12_howLong (Cond.code yX12_howLong cX12_howLong 3 (some .int) :: tb) rm_X12_howLong (PcM g h [.ref (g.2.2 31), .int x1, .int x2] σ sz) (QiM g h (AM g sz) r u) 0 0 (AM g sz) := by
  refine Met.ofW (cc := cX12_howLong) (maxL := 3) (ret := some .int) (by decide) rfl ?_
  intro p e s m args below meth c s₁ B hml hv
  have hv0 := hv
  obtain ⟨rfl, hsz, hP, -⟩ := hv
  subst hsz
  have C : CM g (AM g s.heap.size) p s m _ meth c cX12_howLong 3 RX12 := CM.of B hml (fun w h => List.mem_cons_of_mem _ h) rfl hv0
  have hr := B.returns
  have hS : va_S (AM g s.heap.size) s.heap s.heap [] := va_S.rf
  have hl := lv_entry ([.ref (g.2.2 31), .int x1, .int x2]) (n := 3) (Nat.le_of_ble_eq_true rfl)
  rw [lg_entry_eq]
  generalize (lg_sl ([.ref (g.2.2 31), .int x1, .int x2]) ++ List.replicate (3 - (lg_sl ([.ref (g.2.2 31), .int x1, .int x2])).length) Slot.unset).toArray = ls at hl ⊢
  have hl : lv_has ls 3 [(0, .ref (g.2.2 31)), (1, .int x1), (2, .int x2)] := hl
  obtain ⟨H, hH⟩ : ∃ H, H = s.heap := ⟨_, rfl⟩
  have hP : va_P g.1 vwCl (wM g h σ) H := by rw [hH]; exact hP
  have hS : va_S (AM g s.heap.size) s.heap H [] := by rw [hH]; exact hS
  refine wH hH ?_
  obtain ⟨locs, hlo⟩ : ∃ locs : List Loc, locs = [] := ⟨_, rfl⟩
  rw [← hlo] at hS
  refine wL hlo ?_
  unfold D_X12_howLong at hD
  refine lv_aload_n C.1 C.2.1 dX12_howLong_0 rfl (lv_at hl 0 rfl) ?_
  refine lv_iload_n C.1 C.2.1 dX12_howLong_1 rfl (lv_at hl 1 rfl) ?_
  obtain ⟨r1, hd1, hD⟩ := bp_some hD
  refine kVi_M (As := [.int x1]) (rest := []) (ci := 12) (q0 := 0) C (c_X12_isJudge l g H.size σ x1 hd1) kw_X12_110 ⟨rfl, rfl⟩ ⟨Nat.le_of_ble_eq_true rfl, Nat.le_of_ble_eq_true rfl⟩ kv_X12_isJudge rfl rfl rfl hl.1 (Nat.le_of_ble_eq_true rfl) ⟨Nat.zero_le _, Nat.zero_le _⟩ dX12_howLong_2 hP hS rfl (fun H locs hP hS => ?_)
  refine lv_if_eq (tgt := 16) C.1 C.2.1 dX12_howLong_5 (by decide) (fun c2 => ?_) (fun c2 => ?_)
  · have hD := b_t c2 hD
    refine lv_bipush (v := (-101 : Int32)) C.1 C.2.1 dX12_howLong_16 (by decide) ?_
    cases hD
    exact ri_M C hr hP hS dX12_howLong_18
  · have hD := b_f c2 hD
    refine lv_aload_n C.1 C.2.1 dX12_howLong_8 rfl (lv_at hl 0 rfl) ?_
    refine lv_iload_n C.1 C.2.1 dX12_howLong_9 rfl (lv_at hl 2 rfl) ?_
    obtain ⟨r3, hd3, hD⟩ := bp_some hD
    refine kVi_M (As := [.int x2]) (rest := []) (ci := 12) (q0 := 0) C (c_X12_isRow l g H.size σ x2 hd3) kw_X12_113 ⟨rfl, rfl⟩ ⟨Nat.le_of_ble_eq_true rfl, Nat.le_of_ble_eq_true rfl⟩ kv_X12_isRow rfl rfl rfl hl.1 (Nat.le_of_ble_eq_true rfl) ⟨Nat.zero_le _, Nat.zero_le _⟩ dX12_howLong_10 hP hS rfl (fun H locs hP hS => ?_)
    refine lv_if_ne (tgt := 19) C.1 C.2.1 dX12_howLong_13 (by decide) (fun c4 => ?_) (fun c4 => ?_)
    · have hD := b_f c4 hD
      refine lv_aload_n C.1 C.2.1 dX12_howLong_19 rfl (lv_at hl 0 rfl) ?_
      refine gf_X12_186_31 C hP dX12_howLong_20 ?_
      refine lv_bipush (v := (6 : Int32)) C.1 C.2.1 dX12_howLong_23 (by decide) ?_
      refine lv_icmp_ne (tgt := 31) C.1 C.2.1 dX12_howLong_25 (by decide) (fun c5 => ?_) (fun c5 => ?_)
      · have hD := b_f c5 hD
        refine lv_aload_n C.1 C.2.1 dX12_howLong_31 rfl (lv_at hl 0 rfl) ?_
        refine lv_dup C.1 C.2.1 dX12_howLong_32 rfl ?_
        refine gf_X12_186_31 C hP dX12_howLong_33 ?_
        refine lv_iconst (v := (1 : Int32)) C.1 C.2.1 dX12_howLong_36 (by decide) ?_
        refine lv_iadd C.1 C.2.1 dX12_howLong_37 ?_
        refine pf_X12_186_31 C hP hS dX12_howLong_38 (fun H locs hP hS => ?_)
        refine lv_aload_n C.1 C.2.1 dX12_howLong_41 rfl (lv_at hl 0 rfl) ?_
        refine lv_aload_n C.1 C.2.1 dX12_howLong_42 rfl (lv_at hl 0 rfl) ?_
        refine gf_X12_13_31 C hP dX12_howLong_43 ?_
        refine lv_iload_n C.1 C.2.1 dX12_howLong_46 rfl (lv_at hl 1 rfl) ?_
        obtain ⟨hi6, hD⟩ := gi_some hD
        refine iaM C hP 2 rfl hi6 dX12_howLong_47 ?_
        refine w_rd (show (pt σ 31 16 ((σ 31 16) + (1 : Int32))) 33 (x1.toNatClampNeg) = σ 33 x1.toNatClampNeg from rfl) ?_
        refine lv_iload_n C.1 C.2.1 dX12_howLong_48 rfl (lv_at hl 2 rfl) ?_
        obtain ⟨r7, s7, hd7, hD⟩ := bs_some hD
        refine kVi_M (As := [.int (σ 33 x1.toNatClampNeg), .int x2]) (rest := []) (ci := 12) (q0 := 0) C (c_X12_longOf l g H.size N (pt σ 31 16 ((σ 31 16) + (1 : Int32))) (σ 33 x1.toNatClampNeg) x2 hd7) kw_X12_189 ⟨rfl, rfl⟩ ⟨Nat.le_of_ble_eq_true rfl, Nat.le_of_ble_eq_true rfl⟩ kv_X12_longOf rfl rfl rfl hl.1 (Nat.le_of_ble_eq_true rfl) ⟨Nat.zero_le _, Nat.zero_le _⟩ dX12_howLong_49 hP hS rfl (fun H locs hP hS => ?_)
        cases hD
        exact ri_M C hr hP hS dX12_howLong_52
      · have hD := b_t c5 hD
        refine lv_bipush (v := (-103 : Int32)) C.1 C.2.1 dX12_howLong_28 (by decide) ?_
        cases hD
        exact ri_M C hr hP hS dX12_howLong_30
    · have hD := b_t c4 hD
      refine lv_bipush (v := (-101 : Int32)) C.1 C.2.1 dX12_howLong_16 (by decide) ?_
      cases hD
      exact ri_M C hr hP hS dX12_howLong_18
abbrev rm_X12_image : Room := { frames := 1, cells := 0, slots := 0, locals := 22 }
set_option maxHeartbeats 4000000 in
set_option maxRecDepth 100000 in
theorem c_X12_image (l : Launch) (g : Gx) (sz : Nat) (N : Nat) (σ : St) {h : Int64} {r : Int32} {u : St} (hD : D_X12_image N σ = some (r, u)) : Met l yX12_image (Cond.code yX12_image cX12_image 1 (some .int) :: tb) rm_X12_image (PcM g h [.ref (g.2.2 31)] σ sz) (QiM g h (AM g sz) r u) 0 0 (AM g sz) := by
  refine Met.ofW (cc := cX12_image) (maxL := 1) (ret := some .int) (by decide) rfl ?_
  intro p e s m args below meth c s₁ B hml hv
  have hv0 := hv
  obtain ⟨rfl, hsz, hP, -⟩ := hv
  subst hsz
  have C : CM g (AM g s.heap.size) p s m _ meth c cX12_image 1 RX12 := CM.of B hml (fun w h => List.mem_cons_of_mem _ h) rfl hv0
  have hr := B.returns
  have hS : va_S (AM g s.heap.size) s.heap s.heap [] := va_S.rf
  have hl := lv_entry ([.ref (g.2.2 31)]) (n := 1) (Nat.le_of_ble_eq_true rfl)
  rw [lg_entry_eq]
  generalize (lg_sl ([.ref (g.2.2 31)]) ++ List.replicate (1 - (lg_sl ([.ref (g.2.2 31)])).length) Slot.unset).toArray = ls at hl ⊢
  have hl : lv_has ls 1 [(0, .ref (g.2.2 31))] := hl
  obtain ⟨H, hH⟩ : ∃ H, H = s.heap := ⟨_, rfl⟩
  have hP : va_P g.1 vwCl (wM g h σ) H := by rw [hH]; exact hP
  have hS : va_S (AM g s.heap.size) s.heap H [] := by rw [hH]; exact hS
  refine wH hH ?_
  obtain ⟨locs, hlo⟩ : ∃ locs : List Loc, locs = [] := ⟨_, rfl⟩
  rw [← hlo] at hS
  refine wL hlo ?_
  unfold D_X12_image at hD
  refine lv_aload_n C.1 C.2.1 dX12_image_0 rfl (lv_at hl 0 rfl) ?_
  obtain ⟨r1, hd1, hD⟩ := bp_some hD
  refine kVi_M (As := []) (rest := []) (ci := 12) (q0 := 0) C (c_X12_lacks l g H.size σ hd1) kw_X12_129 ⟨rfl, rfl⟩ ⟨Nat.le_of_ble_eq_true rfl, Nat.le_of_ble_eq_true rfl⟩ kv_X12_lacks rfl rfl rfl hl.1 (Nat.le_of_ble_eq_true rfl) ⟨Nat.zero_le _, Nat.zero_le _⟩ dX12_image_1 hP hS rfl (fun H locs hP hS => ?_)
  refine lv_if_eq (tgt := 10) C.1 C.2.1 dX12_image_4 (by decide) (fun c2 => ?_) (fun c2 => ?_)
  · have hD := b_t c2 hD
    refine lv_aload_n C.1 C.2.1 dX12_image_10 rfl (lv_at hl 0 rfl) ?_
    refine gf_X12_13_31 C hP dX12_image_11 ?_
    refine lv_aload_n C.1 C.2.1 dX12_image_14 rfl (lv_at hl 0 rfl) ?_
    refine gf_X12_31_31 C hP dX12_image_15 ?_
    obtain ⟨s3, hd3, hD⟩ := bp_some hD
    refine kSv_M (As := [.ref (g.2.2 33), .ref (g.2.2 39)]) (rest := []) C (c_X12_copy_k1 l g H.size N σ hd3) kw_X12_234 ⟨rfl, rfl⟩ ⟨Nat.le_of_ble_eq_true rfl, Nat.le_of_ble_eq_true rfl⟩ ks_X12_copy rfl hl.1 (Nat.le_of_ble_eq_true rfl) ⟨Nat.zero_le _, Nat.zero_le _⟩ dX12_image_18 hP hS rfl (fun H locs hP hS => ?_)
    refine lv_aload_n C.1 C.2.1 dX12_image_21 rfl (lv_at hl 0 rfl) ?_
    refine gf_X12_16_31 C hP dX12_image_22 ?_
    refine lv_aload_n C.1 C.2.1 dX12_image_25 rfl (lv_at hl 0 rfl) ?_
    refine gf_X12_34_31 C hP dX12_image_26 ?_
    obtain ⟨s4, hd4, hD⟩ := bp_some hD
    refine kSv_M (As := [.ref (g.2.2 34), .ref (g.2.2 40)]) (rest := []) C (c_X12_copy_s1 l g H.size N s3 hd4) kw_X12_234 ⟨rfl, rfl⟩ ⟨Nat.le_of_ble_eq_true rfl, Nat.le_of_ble_eq_true rfl⟩ ks_X12_copy rfl hl.1 (Nat.le_of_ble_eq_true rfl) ⟨Nat.zero_le _, Nat.zero_le _⟩ dX12_image_29 hP hS rfl (fun H locs hP hS => ?_)
    refine lv_aload_n C.1 C.2.1 dX12_image_32 rfl (lv_at hl 0 rfl) ?_
    refine lv_aload_n C.1 C.2.1 dX12_image_33 rfl (lv_at hl 0 rfl) ?_
    refine gf_X12_41_31 C hP dX12_image_34 ?_
    refine pf_X12_238_31 C hP hS dX12_image_37 (fun H locs hP hS => ?_)
    refine lv_aload_n C.1 C.2.1 dX12_image_40 rfl (lv_at hl 0 rfl) ?_
    refine lv_aload_n C.1 C.2.1 dX12_image_41 rfl (lv_at hl 0 rfl) ?_
    refine gf_X12_93_31 C hP dX12_image_42 ?_
    refine w_rd (show (pt s4 31 22 (s4 31 7)) 31 8 = s4 31 8 from rfl) ?_
    refine pf_X12_241_31 C hP hS dX12_image_45 (fun H locs hP hS => ?_)
    refine lv_aload_n C.1 C.2.1 dX12_image_48 rfl (lv_at hl 0 rfl) ?_
    refine lv_aload_n C.1 C.2.1 dX12_image_49 rfl (lv_at hl 0 rfl) ?_
    refine gf_X12_96_31 C hP dX12_image_50 ?_
    refine w_rd (show (pt (pt s4 31 22 (s4 31 7)) 31 23 (s4 31 8)) 31 9 = s4 31 9 from rfl) ?_
    refine pf_X12_37_31 C hP hS dX12_image_53 (fun H locs hP hS => ?_)
    refine lv_aload_n C.1 C.2.1 dX12_image_56 rfl (lv_at hl 0 rfl) ?_
    refine gf_X12_93_31 C hP dX12_image_57 ?_
    refine w_rd (show (pt (pt (pt s4 31 22 (s4 31 7)) 31 23 (s4 31 8)) 31 21 (s4 31 9)) 31 8 = s4 31 8 from rfl) ?_
    cases hD
    exact ri_M C hr hP hS dX12_image_60
  · have hD := b_f c2 hD
    refine lv_bipush (v := (-103 : Int32)) C.1 C.2.1 dX12_image_7 (by decide) ?_
    cases hD
    exact ri_M C hr hP hS dX12_image_9
abbrev rm_X12_isEnough : Room := { frames := 0, cells := 0, slots := 0, locals := 0 }
set_option maxHeartbeats 4000000 in
set_option maxRecDepth 100000 in
theorem w_J_X12_isEnough_81 (C : CM g A p s m args meth c cX12_isEnough 6 RX12) (hr : meth.sig.returnType = some .boolean) (N : Nat) (σ : St) {h : Int64} {r : Int32} (kc2 : Int32 → Option Int32) (kc15 : Int32 → Option Int32) (x1 : Int32) (x2 : Int32) (x3 : Int32) (x4 : Int32) (t0 : Int32) (hk2 : ∀ (x3 : Int32) (H : Heap) (locs : List Loc) (ls : Array Slot), lv_has ls 6 [(0, .ref (g.2.2 31)), (1, .int x1), (2, .int x2), (3, .int x3)] → va_P g.1 vwCl (wM g h σ) H → va_S A s.heap H locs → kc2 x3 = some r → W p l e rm_X12_isEnough s m args below meth c H locs 0 0 (MQ below (QiM g h A r σ) args s 0 0 A) (F0 m 2 ls [])) (hk15 : ∀ (x4 : Int32) (H : Heap) (locs : List Loc) (ls : Array Slot), lv_has ls 6 [(0, .ref (g.2.2 31)), (1, .int x1), (2, .int x2), (3, .int x3), (4, .int x4)] → va_P g.1 vwCl (wM g h σ) H → va_S A s.heap H locs → kc15 x4 = some r → W p l e rm_X12_isEnough s m args below meth c H locs 0 0 (MQ below (QiM g h A r σ) args s 0 0 A) (F0 m 15 ls [])) : ∀  (H : Heap) (locs : List Loc) (ls : Array Slot), lv_has ls 6 [(0, .ref (g.2.2 31)), (1, .int x1), (2, .int x2), (3, .int x3), (4, .int x4)] → va_P g.1 vwCl (wM g h σ) H → va_S A s.heap H locs → J_X12_isEnough_81 N σ kc2 kc15 x1 x2 x3 x4 t0 = some r → W p l e rm_X12_isEnough s m args below meth c H locs 0 0 (MQ below (QiM g h A r σ) args s 0 0 A) (F0 m 81 ls [.int t0]) := by
  intro  H locs ls hl hP hS hD
  unfold J_X12_isEnough_81 at hD
  refine lv_istore (lv' := [(5, .int t0), (0, .ref (g.2.2 31)), (1, .int x1), (2, .int x2), (3, .int x3), (4, .int x4)]) C.1 C.2.1 dX12_isEnough_81 hl (by decide) rfl (fun ls hl => ?_)
  refine lv_iload C.1 C.2.1 dX12_isEnough_83 (lv_at hl 0 rfl) ?_
  refine lv_if_eq (tgt := 106) C.1 C.2.1 dX12_isEnough_85 (by decide) (fun c6 => ?_) (fun c6 => ?_)
  · have hD := b_t c6 hD
    refine lv_iinc (v := x4 + (1 : Int32)) (lv' := [(4, .int (x4 + (1 : Int32))), (5, .int t0), (0, .ref (g.2.2 31)), (1, .int x1), (2, .int x2), (3, .int x3)]) C.1 C.2.1 dX12_isEnough_106 hl (k := 5) rfl rfl (by decide) rfl (fun ls hl => ?_)
    refine lv_goto (tgt := 15) C.1 C.2.1 dX12_isEnough_109 (by decide) ?_
    exact hk15 (x4 + (1 : Int32)) H locs ls (lv_sub hl [2, 3, 4, 5, 0] rfl) hP hS hD
  · have hD := b_f c6 hD
    refine lv_aload_n C.1 C.2.1 dX12_isEnough_88 rfl (lv_at hl 1 rfl) ?_
    refine gf_X12_28_31 C hP dX12_isEnough_89 ?_
    refine lv_bipush (v := (64 : Int32)) C.1 C.2.1 dX12_isEnough_92 (by decide) ?_
    refine lv_iload_n C.1 C.2.1 dX12_isEnough_94 rfl (lv_at hl 4 rfl) ?_
    refine lv_imul C.1 C.2.1 dX12_isEnough_95 ?_
    refine lv_iload C.1 C.2.1 dX12_isEnough_96 (lv_at hl 5 rfl) ?_
    refine lv_iadd C.1 C.2.1 dX12_isEnough_98 ?_
    obtain ⟨hi7, hD⟩ := gi_some hD
    refine iaM C hP 7 rfl hi7 dX12_isEnough_99 ?_
    refine lv_iconst (v := (1 : Int32)) C.1 C.2.1 dX12_isEnough_100 (by decide) ?_
    refine lv_icmp_ne (tgt := 106) C.1 C.2.1 dX12_isEnough_101 (by decide) (fun c8 => ?_) (fun c8 => ?_)
    · have hD := b_f c8 hD
      refine lv_iinc (v := x4 + (1 : Int32)) (lv' := [(4, .int (x4 + (1 : Int32))), (5, .int t0), (0, .ref (g.2.2 31)), (1, .int x1), (2, .int x2), (3, .int x3)]) C.1 C.2.1 dX12_isEnough_106 hl (k := 5) rfl rfl (by decide) rfl (fun ls hl => ?_)
      refine lv_goto (tgt := 15) C.1 C.2.1 dX12_isEnough_109 (by decide) ?_
      exact hk15 (x4 + (1 : Int32)) H locs ls (lv_sub hl [2, 3, 4, 5, 0] rfl) hP hS hD
    · have hD := b_t c8 hD
      refine lv_iconst (v := (0 : Int32)) C.1 C.2.1 dX12_isEnough_104 (by decide) ?_
      cases hD
      exact rz_M C hr (Or.inl rfl) hP hS dX12_isEnough_105
set_option maxHeartbeats 4000000 in
set_option maxRecDepth 100000 in
theorem w_J_X12_isEnough_80 (C : CM g A p s m args meth c cX12_isEnough 6 RX12) (hr : meth.sig.returnType = some .boolean) (N : Nat) (σ : St) {h : Int64} {r : Int32} (kc2 : Int32 → Option Int32) (kc15 : Int32 → Option Int32) (x1 : Int32) (x2 : Int32) (x3 : Int32) (x4 : Int32) (hk2 : ∀ (x3 : Int32) (H : Heap) (locs : List Loc) (ls : Array Slot), lv_has ls 6 [(0, .ref (g.2.2 31)), (1, .int x1), (2, .int x2), (3, .int x3)] → va_P g.1 vwCl (wM g h σ) H → va_S A s.heap H locs → kc2 x3 = some r → W p l e rm_X12_isEnough s m args below meth c H locs 0 0 (MQ below (QiM g h A r σ) args s 0 0 A) (F0 m 2 ls [])) (hk15 : ∀ (x4 : Int32) (H : Heap) (locs : List Loc) (ls : Array Slot), lv_has ls 6 [(0, .ref (g.2.2 31)), (1, .int x1), (2, .int x2), (3, .int x3), (4, .int x4)] → va_P g.1 vwCl (wM g h σ) H → va_S A s.heap H locs → kc15 x4 = some r → W p l e rm_X12_isEnough s m args below meth c H locs 0 0 (MQ below (QiM g h A r σ) args s 0 0 A) (F0 m 15 ls [])) : ∀  (H : Heap) (locs : List Loc) (ls : Array Slot), lv_has ls 6 [(0, .ref (g.2.2 31)), (1, .int x1), (2, .int x2), (3, .int x3), (4, .int x4)] → va_P g.1 vwCl (wM g h σ) H → va_S A s.heap H locs → J_X12_isEnough_80 N σ kc2 kc15 x1 x2 x3 x4 = some r → W p l e rm_X12_isEnough s m args below meth c H locs 0 0 (MQ below (QiM g h A r σ) args s 0 0 A) (F0 m 80 ls []) := by
  intro  H locs ls hl hP hS hD
  unfold J_X12_isEnough_80 at hD
  refine lv_iconst (v := (0 : Int32)) C.1 C.2.1 dX12_isEnough_80 (by decide) ?_
  exact w_J_X12_isEnough_81 C hr N σ kc2 kc15 x1 x2 x3 x4 (0 : Int32) hk2 hk15 H locs ls (lv_sub hl [0, 1, 2, 3, 4] rfl) hP hS hD
set_option maxHeartbeats 4000000 in
set_option maxRecDepth 100000 in
theorem w_L_X12_isEnough_15 (C : CM g A p s m args meth c cX12_isEnough 6 RX12) (hr : meth.sig.returnType = some .boolean) (N : Nat) (σ : St) {h : Int64} {r : Int32} (kc2 : Int32 → Option Int32) (x1 : Int32) (x2 : Int32) (x3 : Int32) (hk2 : ∀ (x3 : Int32) (H : Heap) (locs : List Loc) (ls : Array Slot), lv_has ls 6 [(0, .ref (g.2.2 31)), (1, .int x1), (2, .int x2), (3, .int x3)] → va_P g.1 vwCl (wM g h σ) H → va_S A s.heap H locs → kc2 x3 = some r → W p l e rm_X12_isEnough s m args below meth c H locs 0 0 (MQ below (QiM g h A r σ) args s 0 0 A) (F0 m 2 ls [])) : ∀ (n : Nat) (x4 : Int32) (H : Heap) (locs : List Loc) (ls : Array Slot), lv_has ls 6 [(0, .ref (g.2.2 31)), (1, .int x1), (2, .int x2), (3, .int x3), (4, .int x4)] → va_P g.1 vwCl (wM g h σ) H → va_S A s.heap H locs → L_X12_isEnough_15 N σ kc2 x1 x2 x3 n x4 = some r → W p l e rm_X12_isEnough s m args below meth c H locs 0 0 (MQ below (QiM g h A r σ) args s 0 0 A) (F0 m 15 ls []) := by
  intro n
  induction n with
  | zero =>
    intro x4 H locs ls hl hP hS hD
    rw [L_X12_isEnough_15] at hD
    cases hD
  | succ n ih =>
    intro x4 H locs ls hl hP hS hD
    rw [L_X12_isEnough_15] at hD
    refine lv_iload C.1 C.2.1 dX12_isEnough_15 (lv_at hl 4 rfl) ?_
    refine lv_aload_n C.1 C.2.1 dX12_isEnough_17 rfl (lv_at hl 0 rfl) ?_
    refine gf_X12_90_31 C hP dX12_isEnough_18 ?_
    refine lv_icmp_ge (tgt := 112) C.1 C.2.1 dX12_isEnough_21 (by decide) (fun c2 => ?_) (fun c2 => ?_)
    · have hD := b_t c2 hD
      refine lv_iinc (v := x3 + (1 : Int32)) (lv' := [(3, .int (x3 + (1 : Int32))), (0, .ref (g.2.2 31)), (1, .int x1), (2, .int x2), (4, .int x4)]) C.1 C.2.1 dX12_isEnough_112 hl (k := 3) rfl rfl (by decide) rfl (fun ls hl => ?_)
      refine lv_goto (tgt := 2) C.1 C.2.1 dX12_isEnough_115 (by decide) ?_
      exact hk2 (x3 + (1 : Int32)) H locs ls (lv_sub hl [1, 2, 3, 0] rfl) hP hS hD
    · have hD := b_f c2 hD
      refine lv_aload_n C.1 C.2.1 dX12_isEnough_24 rfl (lv_at hl 0 rfl) ?_
      refine gf_X12_25_31 C hP dX12_isEnough_25 ?_
      refine lv_bipush (v := (64 : Int32)) C.1 C.2.1 dX12_isEnough_28 (by decide) ?_
      refine lv_iload_n C.1 C.2.1 dX12_isEnough_30 rfl (lv_at hl 1 rfl) ?_
      refine lv_imul C.1 C.2.1 dX12_isEnough_31 ?_
      refine lv_iload_n C.1 C.2.1 dX12_isEnough_32 rfl (lv_at hl 3 rfl) ?_
      refine lv_iadd C.1 C.2.1 dX12_isEnough_33 ?_
      obtain ⟨hi3, hD⟩ := gi_some hD
      refine iaM C hP 6 rfl hi3 dX12_isEnough_34 ?_
      refine lv_aload_n C.1 C.2.1 dX12_isEnough_35 rfl (lv_at hl 0 rfl) ?_
      refine gf_X12_25_31 C hP dX12_isEnough_36 ?_
      refine lv_bipush (v := (64 : Int32)) C.1 C.2.1 dX12_isEnough_39 (by decide) ?_
      refine lv_iload_n C.1 C.2.1 dX12_isEnough_41 rfl (lv_at hl 1 rfl) ?_
      refine lv_imul C.1 C.2.1 dX12_isEnough_42 ?_
      refine lv_iload C.1 C.2.1 dX12_isEnough_43 (lv_at hl 4 rfl) ?_
      refine lv_iadd C.1 C.2.1 dX12_isEnough_45 ?_
      obtain ⟨hi4, hD⟩ := gi_some hD
      refine iaM C hP 6 rfl hi4 dX12_isEnough_46 ?_
      refine lv_icmp_ne (tgt := 80) C.1 C.2.1 dX12_isEnough_47 (by decide) (fun c5 => ?_) (fun c5 => ?_)
      · have hD := b_f c5 hD
        exact w_J_X12_isEnough_80 C hr N σ kc2 (L_X12_isEnough_15 N σ kc2 x1 x2 x3 n) x1 x2 x3 x4 hk2 ih H locs ls (lv_sub hl [0, 1, 2, 3, 4] rfl) hP hS hD
      · have hD := b_t c5 hD
        refine lv_aload_n C.1 C.2.1 dX12_isEnough_50 rfl (lv_at hl 0 rfl) ?_
        refine gf_X12_25_31 C hP dX12_isEnough_51 ?_
        refine lv_bipush (v := (64 : Int32)) C.1 C.2.1 dX12_isEnough_54 (by decide) ?_
        refine lv_iload_n C.1 C.2.1 dX12_isEnough_56 rfl (lv_at hl 2 rfl) ?_
        refine lv_imul C.1 C.2.1 dX12_isEnough_57 ?_
        refine lv_iload_n C.1 C.2.1 dX12_isEnough_58 rfl (lv_at hl 3 rfl) ?_
        refine lv_iadd C.1 C.2.1 dX12_isEnough_59 ?_
        obtain ⟨hi9, hD⟩ := gi_some hD
        refine iaM C hP 6 rfl hi9 dX12_isEnough_60 ?_
        refine lv_aload_n C.1 C.2.1 dX12_isEnough_61 rfl (lv_at hl 0 rfl) ?_
        refine gf_X12_25_31 C hP dX12_isEnough_62 ?_
        refine lv_bipush (v := (64 : Int32)) C.1 C.2.1 dX12_isEnough_65 (by decide) ?_
        refine lv_iload_n C.1 C.2.1 dX12_isEnough_67 rfl (lv_at hl 2 rfl) ?_
        refine lv_imul C.1 C.2.1 dX12_isEnough_68 ?_
        refine lv_iload C.1 C.2.1 dX12_isEnough_69 (lv_at hl 4 rfl) ?_
        refine lv_iadd C.1 C.2.1 dX12_isEnough_71 ?_
        obtain ⟨hi10, hD⟩ := gi_some hD
        refine iaM C hP 6 rfl hi10 dX12_isEnough_72 ?_
        refine lv_icmp_ne (tgt := 80) C.1 C.2.1 dX12_isEnough_73 (by decide) (fun c11 => ?_) (fun c11 => ?_)
        · have hD := b_f c11 hD
          exact w_J_X12_isEnough_80 C hr N σ kc2 (L_X12_isEnough_15 N σ kc2 x1 x2 x3 n) x1 x2 x3 x4 hk2 ih H locs ls (lv_sub hl [0, 1, 2, 3, 4] rfl) hP hS hD
        · have hD := b_t c11 hD
          refine lv_iconst (v := (1 : Int32)) C.1 C.2.1 dX12_isEnough_76 (by decide) ?_
          refine lv_goto (tgt := 81) C.1 C.2.1 dX12_isEnough_77 (by decide) ?_
          exact w_J_X12_isEnough_81 C hr N σ kc2 (L_X12_isEnough_15 N σ kc2 x1 x2 x3 n) x1 x2 x3 x4 (1 : Int32) hk2 ih H locs ls (lv_sub hl [0, 1, 2, 3, 4] rfl) hP hS hD
set_option maxHeartbeats 4000000 in
set_option maxRecDepth 100000 in
theorem w_L_X12_isEnough_2 (C : CM g A p s m args meth c cX12_isEnough 6 RX12) (hr : meth.sig.returnType = some .boolean) (N : Nat) (σ : St) {h : Int64} {r : Int32} (x1 : Int32) (x2 : Int32) : ∀ (n : Nat) (x3 : Int32) (H : Heap) (locs : List Loc) (ls : Array Slot), lv_has ls 6 [(0, .ref (g.2.2 31)), (1, .int x1), (2, .int x2), (3, .int x3)] → va_P g.1 vwCl (wM g h σ) H → va_S A s.heap H locs → L_X12_isEnough_2 N σ x1 x2 n x3 = some r → W p l e rm_X12_isEnough s m args below meth c H locs 0 0 (MQ below (QiM g h A r σ) args s 0 0 A) (F0 m 2 ls []) := by
  intro n
  induction n with
  | zero =>
    intro x3 H locs ls hl hP hS hD
    rw [L_X12_isEnough_2] at hD
    cases hD
  | succ n ih =>
    intro x3 H locs ls hl hP hS hD
    rw [L_X12_isEnough_2] at hD
    refine lv_iload_n C.1 C.2.1 dX12_isEnough_2 rfl (lv_at hl 3 rfl) ?_
    refine lv_aload_n C.1 C.2.1 dX12_isEnough_3 rfl (lv_at hl 0 rfl) ?_
    refine gf_X12_90_31 C hP dX12_isEnough_4 ?_
    refine lv_icmp_ge (tgt := 118) C.1 C.2.1 dX12_isEnough_7 (by decide) (fun c1 => ?_) (fun c1 => ?_)
    · have hD := b_t c1 hD
      refine lv_iconst (v := (1 : Int32)) C.1 C.2.1 dX12_isEnough_118 (by decide) ?_
      cases hD
      exact rz_M C hr (Or.inr rfl) hP hS dX12_isEnough_119
    · have hD := b_f c1 hD
      refine lv_iload_n C.1 C.2.1 dX12_isEnough_10 rfl (lv_at hl 3 rfl) ?_
      refine lv_iconst (v := (1 : Int32)) C.1 C.2.1 dX12_isEnough_11 (by decide) ?_
      refine lv_iadd C.1 C.2.1 dX12_isEnough_12 ?_
      refine lv_istore (lv' := [(4, .int (x3 + (1 : Int32))), (0, .ref (g.2.2 31)), (1, .int x1), (2, .int x2), (3, .int x3)]) C.1 C.2.1 dX12_isEnough_13 hl (by decide) rfl (fun ls hl => ?_)
      exact w_L_X12_isEnough_15 C hr N σ (L_X12_isEnough_2 N σ x1 x2 n) x1 x2 x3 ih N (x3 + (1 : Int32)) H locs ls (lv_sub hl [1, 2, 3, 4, 0] rfl) hP hS hD
set_option maxHeartbeats 4000000 in
set_option maxRecDepth 100000 in
theorem c_X12_isEnough (l : Launch) (g : Gx) (sz : Nat) (N : Nat) (σ : St) (x1 : Int32) (x2 : Int32) {h : Int64} {r : Int32} (hD : D_X12_isEnough N σ x1 x2 = some r) : Met l yX12_isEnough (Cond.code yX12_isEnough cX12_isEnough 6 (some .boolean) :: tb) rm_X12_isEnough (PcM g h [.ref (g.2.2 31), .int x1, .int x2] σ sz) (QiM g h (AM g sz) r σ) 0 0 (AM g sz) := by
  refine Met.ofW (cc := cX12_isEnough) (maxL := 6) (ret := some .boolean) (by decide) rfl ?_
  intro p e s m args below meth c s₁ B hml hv
  have hv0 := hv
  obtain ⟨rfl, hsz, hP, -⟩ := hv
  subst hsz
  have C : CM g (AM g s.heap.size) p s m _ meth c cX12_isEnough 6 RX12 := CM.of B hml (fun w h => List.mem_cons_of_mem _ h) rfl hv0
  have hr := B.returns
  have hS : va_S (AM g s.heap.size) s.heap s.heap [] := va_S.rf
  have hl := lv_entry ([.ref (g.2.2 31), .int x1, .int x2]) (n := 6) (Nat.le_of_ble_eq_true rfl)
  rw [lg_entry_eq]
  generalize (lg_sl ([.ref (g.2.2 31), .int x1, .int x2]) ++ List.replicate (6 - (lg_sl ([.ref (g.2.2 31), .int x1, .int x2])).length) Slot.unset).toArray = ls at hl ⊢
  have hl : lv_has ls 6 [(0, .ref (g.2.2 31)), (1, .int x1), (2, .int x2)] := hl
  obtain ⟨H, hH⟩ : ∃ H, H = s.heap := ⟨_, rfl⟩
  have hP : va_P g.1 vwCl (wM g h σ) H := by rw [hH]; exact hP
  have hS : va_S (AM g s.heap.size) s.heap H [] := by rw [hH]; exact hS
  refine wH hH ?_
  obtain ⟨locs, hlo⟩ : ∃ locs : List Loc, locs = [] := ⟨_, rfl⟩
  rw [← hlo] at hS
  refine wL hlo ?_
  unfold D_X12_isEnough at hD
  refine lv_iconst (v := (0 : Int32)) C.1 C.2.1 dX12_isEnough_0 (by decide) ?_
  refine lv_istore_n (lv' := [(3, .int (0 : Int32)), (0, .ref (g.2.2 31)), (1, .int x1), (2, .int x2)]) C.1 C.2.1 dX12_isEnough_1 rfl hl (by decide) rfl (fun ls hl => ?_)
  exact w_L_X12_isEnough_2 C hr N σ x1 x2 N (0 : Int32) H locs ls (lv_sub hl [1, 2, 3, 0] rfl) hP hS hD
abbrev rm_X12_judge : Room := { frames := 6, cells := 0, slots := 0, locals := 151 }
set_option maxHeartbeats 4000000 in
set_option maxRecDepth 100000 in
theorem c_X12_judge (l : Launch) (g : Gx) (sz : Nat) (N : Nat) (σ : St) (x1 : Int32) (x2 : Int32) {h : Int64} {r : Int32} (hD : D_X12_judge N σ x1 x2 = some r) : Met l yX12_judge (Cond.code yX12_judge cX12_judge 3 (some .int) :: tb) rm_X12_judge (PcM g h [.ref (g.2.2 31), .int x1, .int x2] σ sz) (QiM g h (AM g sz) r σ) 0 0 (AM g sz) := by
  refine Met.ofW (cc := cX12_judge) (maxL := 3) (ret := some .int) (by decide) rfl ?_
  intro p e s m args below meth c s₁ B hml hv
  have hv0 := hv
  obtain ⟨rfl, hsz, hP, -⟩ := hv
  subst hsz
  have C : CM g (AM g s.heap.size) p s m _ meth c cX12_judge 3 RX12 := CM.of B hml (fun w h => List.mem_cons_of_mem _ h) rfl hv0
  have hr := B.returns
  have hS : va_S (AM g s.heap.size) s.heap s.heap [] := va_S.rf
  have hl := lv_entry ([.ref (g.2.2 31), .int x1, .int x2]) (n := 3) (Nat.le_of_ble_eq_true rfl)
  rw [lg_entry_eq]
  generalize (lg_sl ([.ref (g.2.2 31), .int x1, .int x2]) ++ List.replicate (3 - (lg_sl ([.ref (g.2.2 31), .int x1, .int x2])).length) Slot.unset).toArray = ls at hl ⊢
  have hl : lv_has ls 3 [(0, .ref (g.2.2 31)), (1, .int x1), (2, .int x2)] := hl
  obtain ⟨H, hH⟩ : ∃ H, H = s.heap := ⟨_, rfl⟩
  have hP : va_P g.1 vwCl (wM g h σ) H := by rw [hH]; exact hP
  have hS : va_S (AM g s.heap.size) s.heap H [] := by rw [hH]; exact hS
  refine wH hH ?_
  obtain ⟨locs, hlo⟩ : ∃ locs : List Loc, locs = [] := ⟨_, rfl⟩
  rw [← hlo] at hS
  refine wL hlo ?_
  unfold D_X12_judge at hD
  refine lv_aload_n C.1 C.2.1 dX12_judge_0 rfl (lv_at hl 0 rfl) ?_
  refine lv_iload_n C.1 C.2.1 dX12_judge_1 rfl (lv_at hl 1 rfl) ?_
  obtain ⟨r1, hd1, hD⟩ := bp_some hD
  refine kVi_M (As := [.int x1]) (rest := []) (ci := 12) (q0 := 0) C (c_X12_isJudge l g H.size σ x1 hd1) kw_X12_110 ⟨rfl, rfl⟩ ⟨Nat.le_of_ble_eq_true rfl, Nat.le_of_ble_eq_true rfl⟩ kv_X12_isJudge rfl rfl rfl hl.1 (Nat.le_of_ble_eq_true rfl) ⟨Nat.zero_le _, Nat.zero_le _⟩ dX12_judge_2 hP hS rfl (fun H locs hP hS => ?_)
  refine lv_if_eq (tgt := 17) C.1 C.2.1 dX12_judge_5 (by decide) (fun c2 => ?_) (fun c2 => ?_)
  · have hD := b_t c2 hD
    refine lv_bipush (v := (-101 : Int32)) C.1 C.2.1 dX12_judge_17 (by decide) ?_
    cases hD
    exact ri_M C hr hP hS dX12_judge_19
  · have hD := b_f c2 hD
    refine lv_aload_n C.1 C.2.1 dX12_judge_8 rfl (lv_at hl 0 rfl) ?_
    refine lv_iload_n C.1 C.2.1 dX12_judge_9 rfl (lv_at hl 1 rfl) ?_
    refine lv_iload_n C.1 C.2.1 dX12_judge_10 rfl (lv_at hl 2 rfl) ?_
    obtain ⟨r3, hd3, hD⟩ := bp_some hD
    refine kVi_M (As := [.int x1, .int x2]) (rest := []) (ci := 12) (q0 := 0) C (c_X12_tellJudge l g H.size N σ x1 x2 hd3) kw_X12_151 ⟨rfl, rfl⟩ ⟨Nat.le_of_ble_eq_true rfl, Nat.le_of_ble_eq_true rfl⟩ kv_X12_tellJudge rfl rfl rfl hl.1 (Nat.le_of_ble_eq_true rfl) ⟨Nat.zero_le _, Nat.zero_le _⟩ dX12_judge_11 hP hS rfl (fun H locs hP hS => ?_)
    refine lv_goto (tgt := 19) C.1 C.2.1 dX12_judge_14 (by decide) ?_
    cases hD
    exact ri_M C hr hP hS dX12_judge_19
abbrev rm_X12_keep : Room := { frames := 0, cells := 0, slots := 0, locals := 0 }
set_option maxHeartbeats 4000000 in
set_option maxRecDepth 100000 in
theorem c_X12_keep (l : Launch) (g : Gx) (sz : Nat) (σ : St) (x1 : Int32) (x2 : Int32) (x3 : Int32) {h : Int64} {u : St} (hD : D_X12_keep σ x1 x2 x3 = some u) : Met l yX12_keep (Cond.code yX12_keep cX12_keep 4 (none) :: tb) rm_X12_keep (PcM g h [.ref (g.2.2 31), .int x1, .int x2, .int x3] σ sz) (QvM g h (AM g sz) u) 0 0 (AM g sz) := by
  refine Met.ofW (cc := cX12_keep) (maxL := 4) (ret := none) (by decide) rfl ?_
  intro p e s m args below meth c s₁ B hml hv
  have hv0 := hv
  obtain ⟨rfl, hsz, hP, -⟩ := hv
  subst hsz
  have C : CM g (AM g s.heap.size) p s m _ meth c cX12_keep 4 RX12 := CM.of B hml (fun w h => List.mem_cons_of_mem _ h) rfl hv0
  have hr := B.returns
  have hS : va_S (AM g s.heap.size) s.heap s.heap [] := va_S.rf
  have hl := lv_entry ([.ref (g.2.2 31), .int x1, .int x2, .int x3]) (n := 4) (Nat.le_of_ble_eq_true rfl)
  rw [lg_entry_eq]
  generalize (lg_sl ([.ref (g.2.2 31), .int x1, .int x2, .int x3]) ++ List.replicate (4 - (lg_sl ([.ref (g.2.2 31), .int x1, .int x2, .int x3])).length) Slot.unset).toArray = ls at hl ⊢
  have hl : lv_has ls 4 [(0, .ref (g.2.2 31)), (1, .int x1), (2, .int x2), (3, .int x3)] := hl
  obtain ⟨H, hH⟩ : ∃ H, H = s.heap := ⟨_, rfl⟩
  have hP : va_P g.1 vwCl (wM g h σ) H := by rw [hH]; exact hP
  have hS : va_S (AM g s.heap.size) s.heap H [] := by rw [hH]; exact hS
  refine wH hH ?_
  obtain ⟨locs, hlo⟩ : ∃ locs : List Loc, locs = [] := ⟨_, rfl⟩
  rw [← hlo] at hS
  refine wL hlo ?_
  unfold D_X12_keep at hD
  refine lv_aload_n C.1 C.2.1 dX12_keep_0 rfl (lv_at hl 0 rfl) ?_
  refine gf_X12_16_31 C hP dX12_keep_1 ?_
  refine lv_iconst (v := (3 : Int32)) C.1 C.2.1 dX12_keep_4 (by decide) ?_
  refine lv_aload_n C.1 C.2.1 dX12_keep_5 rfl (lv_at hl 0 rfl) ?_
  refine gf_X12_93_31 C hP dX12_keep_6 ?_
  refine lv_imul C.1 C.2.1 dX12_keep_9 ?_
  refine lv_iload_n C.1 C.2.1 dX12_keep_10 rfl (lv_at hl 1 rfl) ?_
  obtain ⟨hi1, hD⟩ := gi_some hD
  refine isM C hP hS 3 rfl hi1 dX12_keep_11 st_34 (fun H locs hP hS => ?_)
  refine lv_aload_n C.1 C.2.1 dX12_keep_12 rfl (lv_at hl 0 rfl) ?_
  refine gf_X12_16_31 C hP dX12_keep_13 ?_
  refine lv_iconst (v := (3 : Int32)) C.1 C.2.1 dX12_keep_16 (by decide) ?_
  refine lv_aload_n C.1 C.2.1 dX12_keep_17 rfl (lv_at hl 0 rfl) ?_
  refine gf_X12_93_31 C hP dX12_keep_18 ?_
  refine w_rd (show (pt σ 34 (((3 : Int32) * (σ 31 8)).toNatClampNeg) x1) 31 8 = σ 31 8 from rfl) ?_
  refine lv_imul C.1 C.2.1 dX12_keep_21 ?_
  refine lv_iconst (v := (1 : Int32)) C.1 C.2.1 dX12_keep_22 (by decide) ?_
  refine lv_iadd C.1 C.2.1 dX12_keep_23 ?_
  refine lv_iload_n C.1 C.2.1 dX12_keep_24 rfl (lv_at hl 2 rfl) ?_
  obtain ⟨hi2, hD⟩ := gi_some hD
  refine isM C hP hS 3 rfl hi2 dX12_keep_25 st_34 (fun H locs hP hS => ?_)
  refine lv_aload_n C.1 C.2.1 dX12_keep_26 rfl (lv_at hl 0 rfl) ?_
  refine gf_X12_16_31 C hP dX12_keep_27 ?_
  refine lv_iconst (v := (3 : Int32)) C.1 C.2.1 dX12_keep_30 (by decide) ?_
  refine lv_aload_n C.1 C.2.1 dX12_keep_31 rfl (lv_at hl 0 rfl) ?_
  refine gf_X12_93_31 C hP dX12_keep_32 ?_
  refine w_rd (show (pt (pt σ 34 (((3 : Int32) * (σ 31 8)).toNatClampNeg) x1) 34 ((((3 : Int32) * (σ 31 8)) + (1 : Int32)).toNatClampNeg) x2) 31 8 = σ 31 8 from rfl) ?_
  refine lv_imul C.1 C.2.1 dX12_keep_35 ?_
  refine lv_iconst (v := (2 : Int32)) C.1 C.2.1 dX12_keep_36 (by decide) ?_
  refine lv_iadd C.1 C.2.1 dX12_keep_37 ?_
  refine lv_iload_n C.1 C.2.1 dX12_keep_38 rfl (lv_at hl 3 rfl) ?_
  obtain ⟨hi3, hD⟩ := gi_some hD
  refine isM C hP hS 3 rfl hi3 dX12_keep_39 st_34 (fun H locs hP hS => ?_)
  refine lv_aload_n C.1 C.2.1 dX12_keep_40 rfl (lv_at hl 0 rfl) ?_
  refine lv_dup C.1 C.2.1 dX12_keep_41 rfl ?_
  refine gf_X12_93_31 C hP dX12_keep_42 ?_
  refine w_rd (show (pt (pt (pt σ 34 (((3 : Int32) * (σ 31 8)).toNatClampNeg) x1) 34 ((((3 : Int32) * (σ 31 8)) + (1 : Int32)).toNatClampNeg) x2) 34 ((((3 : Int32) * (σ 31 8)) + (2 : Int32)).toNatClampNeg) x3) 31 8 = σ 31 8 from rfl) ?_
  refine lv_iconst (v := (1 : Int32)) C.1 C.2.1 dX12_keep_45 (by decide) ?_
  refine lv_iadd C.1 C.2.1 dX12_keep_46 ?_
  refine pf_X12_93_31 C hP hS dX12_keep_47 (fun H locs hP hS => ?_)
  cases hD
  exact rv_M C hr hP hS dX12_keep_50
abbrev rm_X12_layTable : Room := { frames := 4, cells := 0, slots := 0, locals := 99 }
set_option maxHeartbeats 4000000 in
set_option maxRecDepth 100000 in
theorem w_J_X12_layTable_66 (C : CM g A p s m args meth c cX12_layTable 6 RX12) (hr : meth.sig.returnType = none) (N : Nat) {h : Int64} {u : St} (kc2 : Int32 → St → Option St) (x1 : Int32) (x2 : Int32) (x3 : Int32) (x4 : Int32) (x5 : Int32) (t1 : Int32) (t2 : Int32) (hk2 : ∀ (x2 : Int32) (σ : St) (H : Heap) (locs : List Loc) (ls : Array Slot), lv_has ls 6 [(0, .ref (g.2.2 31)), (1, .int x1), (2, .int x2)] → va_P g.1 vwCl (wM g h σ) H → va_S A s.heap H locs → kc2 x2 σ = some u → W p l e rm_X12_layTable s m args below meth c H locs 0 0 (MQ below (QvM g h A u) args s 0 0 A) (F0 m 2 ls [])) : ∀ (σ : St) (H : Heap) (locs : List Loc) (ls : Array Slot), lv_has ls 6 [(0, .ref (g.2.2 31)), (1, .int x1), (2, .int x2), (3, .int x3), (4, .int x4), (5, .int x5)] → va_P g.1 vwCl (wM g h σ) H → va_S A s.heap H locs → J_X12_layTable_66 N kc2 x1 x2 x3 x4 x5 t1 t2 σ = some u → W p l e rm_X12_layTable s m args below meth c H locs 0 0 (MQ below (QvM g h A u) args s 0 0 A) (F0 m 66 ls [.int t2, .int t1, .ref (g.2.2 37)]) := by
  intro σ H locs ls hl hP hS hD
  unfold J_X12_layTable_66 at hD
  obtain ⟨hi6, hD⟩ := gi_some hD
  refine isM C hP hS 6 rfl hi6 dX12_layTable_66 st_37 (fun H locs hP hS => ?_)
  refine lv_aload_n C.1 C.2.1 dX12_layTable_67 rfl (lv_at hl 0 rfl) ?_
  refine gf_X12_28_31 C hP dX12_layTable_68 ?_
  refine lv_iload_n C.1 C.2.1 dX12_layTable_71 rfl (lv_at hl 2 rfl) ?_
  refine lv_iload C.1 C.2.1 dX12_layTable_72 (lv_at hl 5 rfl) ?_
  refine lv_if_eq (tgt := 98) C.1 C.2.1 dX12_layTable_74 (by decide) (fun c7 => ?_) (fun c7 => ?_)
  · have hD := b_t c7 hD
    refine lv_iconst (v := (0 : Int32)) C.1 C.2.1 dX12_layTable_98 (by decide) ?_
    obtain ⟨hi8, hD⟩ := gi_some hD
    refine isM C hP hS 7 rfl hi8 dX12_layTable_99 st_38 (fun H locs hP hS => ?_)
    refine lv_iinc (v := x2 + (1 : Int32)) (lv' := [(2, .int (x2 + (1 : Int32))), (0, .ref (g.2.2 31)), (1, .int x1), (3, .int x3), (4, .int x4), (5, .int x5)]) C.1 C.2.1 dX12_layTable_100 hl (k := 2) rfl rfl (by decide) rfl (fun ls hl => ?_)
    refine lv_goto (tgt := 2) C.1 C.2.1 dX12_layTable_103 (by decide) ?_
    exact hk2 (x2 + (1 : Int32)) (pt (pt σ 37 t1.toNatClampNeg t2) 38 x2.toNatClampNeg (0 : Int32)) H locs ls (lv_sub hl [1, 2, 0] rfl) hP hS hD
  · have hD := b_f c7 hD
    refine lv_iload_n C.1 C.2.1 dX12_layTable_77 rfl (lv_at hl 3 rfl) ?_
    refine lv_iload C.1 C.2.1 dX12_layTable_78 (lv_at hl 4 rfl) ?_
    refine lv_icmp_ge (tgt := 98) C.1 C.2.1 dX12_layTable_80 (by decide) (fun c9 => ?_) (fun c9 => ?_)
    · have hD := b_t c9 hD
      refine lv_iconst (v := (0 : Int32)) C.1 C.2.1 dX12_layTable_98 (by decide) ?_
      obtain ⟨hi10, hD⟩ := gi_some hD
      refine isM C hP hS 7 rfl hi10 dX12_layTable_99 st_38 (fun H locs hP hS => ?_)
      refine lv_iinc (v := x2 + (1 : Int32)) (lv' := [(2, .int (x2 + (1 : Int32))), (0, .ref (g.2.2 31)), (1, .int x1), (3, .int x3), (4, .int x4), (5, .int x5)]) C.1 C.2.1 dX12_layTable_100 hl (k := 2) rfl rfl (by decide) rfl (fun ls hl => ?_)
      refine lv_goto (tgt := 2) C.1 C.2.1 dX12_layTable_103 (by decide) ?_
      exact hk2 (x2 + (1 : Int32)) (pt (pt σ 37 t1.toNatClampNeg t2) 38 x2.toNatClampNeg (0 : Int32)) H locs ls (lv_sub hl [1, 2, 0] rfl) hP hS hD
    · have hD := b_f c9 hD
      refine lv_aload_n C.1 C.2.1 dX12_layTable_83 rfl (lv_at hl 0 rfl) ?_
      refine lv_iload_n C.1 C.2.1 dX12_layTable_84 rfl (lv_at hl 1 rfl) ?_
      refine lv_iload_n C.1 C.2.1 dX12_layTable_85 rfl (lv_at hl 3 rfl) ?_
      refine lv_iload C.1 C.2.1 dX12_layTable_86 (lv_at hl 4 rfl) ?_
      obtain ⟨r11, hd11, hD⟩ := bp_some hD
      refine kVi_M (As := [.int x1, .int x3, .int x4]) (rest := [.int x2, .ref (g.2.2 38)]) (ci := 12) (q0 := 0) C (c_X12_isTwin l g H.size N (pt σ 37 t1.toNatClampNeg t2) x1 x3 x4 hd11) kw_X12_192 ⟨rfl, rfl⟩ ⟨Nat.le_of_ble_eq_true rfl, Nat.le_of_ble_eq_true rfl⟩ kv_X12_isTwin rfl rfl rfl hl.1 (Nat.le_of_ble_eq_true rfl) ⟨Nat.zero_le _, Nat.zero_le _⟩ dX12_layTable_88 hP hS rfl (fun H locs hP hS => ?_)
      refine lv_if_ne (tgt := 98) C.1 C.2.1 dX12_layTable_91 (by decide) (fun c12 => ?_) (fun c12 => ?_)
      · have hD := b_f c12 hD
        refine lv_iconst (v := (0 : Int32)) C.1 C.2.1 dX12_layTable_98 (by decide) ?_
        obtain ⟨hi13, hD⟩ := gi_some hD
        refine isM C hP hS 7 rfl hi13 dX12_layTable_99 st_38 (fun H locs hP hS => ?_)
        refine lv_iinc (v := x2 + (1 : Int32)) (lv' := [(2, .int (x2 + (1 : Int32))), (0, .ref (g.2.2 31)), (1, .int x1), (3, .int x3), (4, .int x4), (5, .int x5)]) C.1 C.2.1 dX12_layTable_100 hl (k := 2) rfl rfl (by decide) rfl (fun ls hl => ?_)
        refine lv_goto (tgt := 2) C.1 C.2.1 dX12_layTable_103 (by decide) ?_
        exact hk2 (x2 + (1 : Int32)) (pt (pt σ 37 t1.toNatClampNeg t2) 38 x2.toNatClampNeg (0 : Int32)) H locs ls (lv_sub hl [1, 2, 0] rfl) hP hS hD
      · have hD := b_t c12 hD
        refine lv_iconst (v := (1 : Int32)) C.1 C.2.1 dX12_layTable_94 (by decide) ?_
        refine lv_goto (tgt := 99) C.1 C.2.1 dX12_layTable_95 (by decide) ?_
        obtain ⟨hi14, hD⟩ := gi_some hD
        refine isM C hP hS 7 rfl hi14 dX12_layTable_99 st_38 (fun H locs hP hS => ?_)
        refine lv_iinc (v := x2 + (1 : Int32)) (lv' := [(2, .int (x2 + (1 : Int32))), (0, .ref (g.2.2 31)), (1, .int x1), (3, .int x3), (4, .int x4), (5, .int x5)]) C.1 C.2.1 dX12_layTable_100 hl (k := 2) rfl rfl (by decide) rfl (fun ls hl => ?_)
        refine lv_goto (tgt := 2) C.1 C.2.1 dX12_layTable_103 (by decide) ?_
        exact hk2 (x2 + (1 : Int32)) (pt (pt σ 37 t1.toNatClampNeg t2) 38 x2.toNatClampNeg (1 : Int32)) H locs ls (lv_sub hl [1, 2, 0] rfl) hP hS hD
set_option maxHeartbeats 4000000 in
set_option maxRecDepth 100000 in
theorem w_J_X12_layTable_42 (C : CM g A p s m args meth c cX12_layTable 6 RX12) (hr : meth.sig.returnType = none) (N : Nat) {h : Int64} {u : St} (kc2 : Int32 → St → Option St) (x1 : Int32) (x2 : Int32) (x3 : Int32) (x4 : Int32) (t0 : Int32) (hk2 : ∀ (x2 : Int32) (σ : St) (H : Heap) (locs : List Loc) (ls : Array Slot), lv_has ls 6 [(0, .ref (g.2.2 31)), (1, .int x1), (2, .int x2)] → va_P g.1 vwCl (wM g h σ) H → va_S A s.heap H locs → kc2 x2 σ = some u → W p l e rm_X12_layTable s m args below meth c H locs 0 0 (MQ below (QvM g h A u) args s 0 0 A) (F0 m 2 ls [])) : ∀ (σ : St) (H : Heap) (locs : List Loc) (ls : Array Slot), lv_has ls 6 [(0, .ref (g.2.2 31)), (1, .int x1), (2, .int x2), (3, .int x3), (4, .int x4)] → va_P g.1 vwCl (wM g h σ) H → va_S A s.heap H locs → J_X12_layTable_42 N kc2 x1 x2 x3 x4 t0 σ = some u → W p l e rm_X12_layTable s m args below meth c H locs 0 0 (MQ below (QvM g h A u) args s 0 0 A) (F0 m 42 ls [.int t0]) := by
  intro σ H locs ls hl hP hS hD
  unfold J_X12_layTable_42 at hD
  refine lv_istore (lv' := [(5, .int t0), (0, .ref (g.2.2 31)), (1, .int x1), (2, .int x2), (3, .int x3), (4, .int x4)]) C.1 C.2.1 dX12_layTable_42 hl (by decide) rfl (fun ls hl => ?_)
  refine lv_aload_n C.1 C.2.1 dX12_layTable_44 rfl (lv_at hl 1 rfl) ?_
  refine gf_X12_25_31 C hP dX12_layTable_45 ?_
  refine lv_iload_n C.1 C.2.1 dX12_layTable_48 rfl (lv_at hl 3 rfl) ?_
  refine lv_iload C.1 C.2.1 dX12_layTable_49 (lv_at hl 0 rfl) ?_
  refine lv_if_eq (tgt := 65) C.1 C.2.1 dX12_layTable_51 (by decide) (fun c5 => ?_) (fun c5 => ?_)
  · have hD := b_t c5 hD
    refine lv_iconst (v := (0 : Int32)) C.1 C.2.1 dX12_layTable_65 (by decide) ?_
    exact w_J_X12_layTable_66 C hr N kc2 x1 x2 x3 x4 t0 x2 (0 : Int32) hk2 σ H locs ls (lv_sub hl [1, 2, 3, 4, 5, 0] rfl) hP hS hD
  · have hD := b_f c5 hD
    refine lv_aload_n C.1 C.2.1 dX12_layTable_54 rfl (lv_at hl 1 rfl) ?_
    refine lv_iload_n C.1 C.2.1 dX12_layTable_55 rfl (lv_at hl 2 rfl) ?_
    refine lv_iload_n C.1 C.2.1 dX12_layTable_56 rfl (lv_at hl 4 rfl) ?_
    refine lv_iload C.1 C.2.1 dX12_layTable_57 (lv_at hl 5 rfl) ?_
    obtain ⟨r15, hd15, hD⟩ := bp_some hD
    refine kVi_M (As := [.int x1, .int x3, .int x4]) (rest := [.int x2, .ref (g.2.2 37)]) (ci := 12) (q0 := 0) C (c_X12_tellsBy l g H.size N σ x1 x3 x4 hd15) kw_X12_116 ⟨rfl, rfl⟩ ⟨Nat.le_of_ble_eq_true rfl, Nat.le_of_ble_eq_true rfl⟩ kv_X12_tellsBy rfl rfl rfl hl.1 (Nat.le_of_ble_eq_true rfl) ⟨Nat.zero_le _, Nat.zero_le _⟩ dX12_layTable_59 hP hS rfl (fun H locs hP hS => ?_)
    refine lv_goto (tgt := 66) C.1 C.2.1 dX12_layTable_62 (by decide) ?_
    exact w_J_X12_layTable_66 C hr N kc2 x1 x2 x3 x4 t0 x2 r15 hk2 σ H locs ls (lv_sub hl [1, 2, 3, 4, 5, 0] rfl) hP hS hD
set_option maxHeartbeats 4000000 in
set_option maxRecDepth 100000 in
theorem w_J_X12_layTable_41 (C : CM g A p s m args meth c cX12_layTable 6 RX12) (hr : meth.sig.returnType = none) (N : Nat) {h : Int64} {u : St} (kc2 : Int32 → St → Option St) (x1 : Int32) (x2 : Int32) (x3 : Int32) (x4 : Int32) (hk2 : ∀ (x2 : Int32) (σ : St) (H : Heap) (locs : List Loc) (ls : Array Slot), lv_has ls 6 [(0, .ref (g.2.2 31)), (1, .int x1), (2, .int x2)] → va_P g.1 vwCl (wM g h σ) H → va_S A s.heap H locs → kc2 x2 σ = some u → W p l e rm_X12_layTable s m args below meth c H locs 0 0 (MQ below (QvM g h A u) args s 0 0 A) (F0 m 2 ls [])) : ∀ (σ : St) (H : Heap) (locs : List Loc) (ls : Array Slot), lv_has ls 6 [(0, .ref (g.2.2 31)), (1, .int x1), (2, .int x2), (3, .int x3), (4, .int x4)] → va_P g.1 vwCl (wM g h σ) H → va_S A s.heap H locs → J_X12_layTable_41 N kc2 x1 x2 x3 x4 σ = some u → W p l e rm_X12_layTable s m args below meth c H locs 0 0 (MQ below (QvM g h A u) args s 0 0 A) (F0 m 41 ls []) := by
  intro σ H locs ls hl hP hS hD
  unfold J_X12_layTable_41 at hD
  refine lv_iconst (v := (0 : Int32)) C.1 C.2.1 dX12_layTable_41 (by decide) ?_
  exact w_J_X12_layTable_42 C hr N kc2 x1 x2 x3 x4 (0 : Int32) hk2 σ H locs ls (lv_sub hl [0, 1, 2, 3, 4] rfl) hP hS hD
set_option maxHeartbeats 4000000 in
set_option maxRecDepth 100000 in
theorem w_L_X12_layTable_2 (C : CM g A p s m args meth c cX12_layTable 6 RX12) (hr : meth.sig.returnType = none) (N : Nat) {h : Int64} {u : St} (x1 : Int32) : ∀ (n : Nat) (x2 : Int32) (σ : St) (H : Heap) (locs : List Loc) (ls : Array Slot), lv_has ls 6 [(0, .ref (g.2.2 31)), (1, .int x1), (2, .int x2)] → va_P g.1 vwCl (wM g h σ) H → va_S A s.heap H locs → L_X12_layTable_2 N x1 n x2 σ = some u → W p l e rm_X12_layTable s m args below meth c H locs 0 0 (MQ below (QvM g h A u) args s 0 0 A) (F0 m 2 ls []) := by
  intro n
  induction n with
  | zero =>
    intro x2 σ H locs ls hl hP hS hD
    rw [L_X12_layTable_2] at hD
    cases hD
  | succ n ih =>
    intro x2 σ H locs ls hl hP hS hD
    rw [L_X12_layTable_2] at hD
    refine lv_iload_n C.1 C.2.1 dX12_layTable_2 rfl (lv_at hl 2 rfl) ?_
    refine lv_sipush (v := (4096 : Int32)) C.1 C.2.1 dX12_layTable_3 (by decide) ?_
    refine lv_icmp_ge (tgt := 106) C.1 C.2.1 dX12_layTable_6 (by decide) (fun c1 => ?_) (fun c1 => ?_)
    · have hD := b_t c1 hD
      cases hD
      exact rv_M C hr hP hS dX12_layTable_106
    · have hD := b_f c1 hD
      refine lv_iload_n C.1 C.2.1 dX12_layTable_9 rfl (lv_at hl 2 rfl) ?_
      refine lv_bipush (v := (64 : Int32)) C.1 C.2.1 dX12_layTable_10 (by decide) ?_
      refine lv_idiv C.1 C.2.1 dX12_layTable_12 (by decide) ?_
      refine lv_istore_n (lv' := [(3, .int (x2 / (64 : Int32))), (0, .ref (g.2.2 31)), (1, .int x1), (2, .int x2)]) C.1 C.2.1 dX12_layTable_13 rfl hl (by decide) rfl (fun ls hl => ?_)
      refine lv_iload_n C.1 C.2.1 dX12_layTable_14 rfl (lv_at hl 3 rfl) ?_
      refine lv_bipush (v := (64 : Int32)) C.1 C.2.1 dX12_layTable_15 (by decide) ?_
      refine lv_irem C.1 C.2.1 dX12_layTable_17 (by decide) ?_
      refine lv_istore (lv' := [(4, .int (x2 - x2 / (64 : Int32) * (64 : Int32))), (3, .int (x2 / (64 : Int32))), (0, .ref (g.2.2 31)), (1, .int x1), (2, .int x2)]) C.1 C.2.1 dX12_layTable_18 hl (by decide) rfl (fun ls hl => ?_)
      refine lv_iload_n C.1 C.2.1 dX12_layTable_20 rfl (lv_at hl 1 rfl) ?_
      refine lv_aload_n C.1 C.2.1 dX12_layTable_21 rfl (lv_at hl 2 rfl) ?_
      refine gf_X12_90_31 C hP dX12_layTable_22 ?_
      refine lv_icmp_ge (tgt := 41) C.1 C.2.1 dX12_layTable_25 (by decide) (fun c4 => ?_) (fun c4 => ?_)
      · have hD := b_t c4 hD
        exact w_J_X12_layTable_41 C hr N (L_X12_layTable_2 N x1 n) x1 x2 (x2 / (64 : Int32)) (x2 - x2 / (64 : Int32) * (64 : Int32)) ih σ H locs ls (lv_sub hl [2, 3, 4, 1, 0] rfl) hP hS hD
      · have hD := b_f c4 hD
        refine lv_iload C.1 C.2.1 dX12_layTable_28 (lv_at hl 0 rfl) ?_
        refine lv_aload_n C.1 C.2.1 dX12_layTable_30 rfl (lv_at hl 2 rfl) ?_
        refine gf_X12_90_31 C hP dX12_layTable_31 ?_
        refine lv_icmp_ge (tgt := 41) C.1 C.2.1 dX12_layTable_34 (by decide) (fun c16 => ?_) (fun c16 => ?_)
        · have hD := b_t c16 hD
          exact w_J_X12_layTable_41 C hr N (L_X12_layTable_2 N x1 n) x1 x2 (x2 / (64 : Int32)) (x2 - x2 / (64 : Int32) * (64 : Int32)) ih σ H locs ls (lv_sub hl [2, 3, 4, 1, 0] rfl) hP hS hD
        · have hD := b_f c16 hD
          refine lv_iconst (v := (1 : Int32)) C.1 C.2.1 dX12_layTable_37 (by decide) ?_
          refine lv_goto (tgt := 42) C.1 C.2.1 dX12_layTable_38 (by decide) ?_
          exact w_J_X12_layTable_42 C hr N (L_X12_layTable_2 N x1 n) x1 x2 (x2 / (64 : Int32)) (x2 - x2 / (64 : Int32) * (64 : Int32)) (1 : Int32) ih σ H locs ls (lv_sub hl [2, 3, 4, 1, 0] rfl) hP hS hD
set_option maxHeartbeats 4000000 in
set_option maxRecDepth 100000 in
theorem c_X12_layTable (l : Launch) (g : Gx) (sz : Nat) (N : Nat) (σ : St) (x1 : Int32) {h : Int64} {u : St} (hD : D_X12_layTable N σ x1 = some u) : Met l yX12_layTable (Cond.code yX12_layTable cX12_layTable 6 (none) :: tb) rm_X12_layTable (PcM g h [.ref (g.2.2 31), .int x1] σ sz) (QvM g h (AM g sz) u) 0 0 (AM g sz) := by
  refine Met.ofW (cc := cX12_layTable) (maxL := 6) (ret := none) (by decide) rfl ?_
  intro p e s m args below meth c s₁ B hml hv
  have hv0 := hv
  obtain ⟨rfl, hsz, hP, -⟩ := hv
  subst hsz
  have C : CM g (AM g s.heap.size) p s m _ meth c cX12_layTable 6 RX12 := CM.of B hml (fun w h => List.mem_cons_of_mem _ h) rfl hv0
  have hr := B.returns
  have hS : va_S (AM g s.heap.size) s.heap s.heap [] := va_S.rf
  have hl := lv_entry ([.ref (g.2.2 31), .int x1]) (n := 6) (Nat.le_of_ble_eq_true rfl)
  rw [lg_entry_eq]
  generalize (lg_sl ([.ref (g.2.2 31), .int x1]) ++ List.replicate (6 - (lg_sl ([.ref (g.2.2 31), .int x1])).length) Slot.unset).toArray = ls at hl ⊢
  have hl : lv_has ls 6 [(0, .ref (g.2.2 31)), (1, .int x1)] := hl
  obtain ⟨H, hH⟩ : ∃ H, H = s.heap := ⟨_, rfl⟩
  have hP : va_P g.1 vwCl (wM g h σ) H := by rw [hH]; exact hP
  have hS : va_S (AM g s.heap.size) s.heap H [] := by rw [hH]; exact hS
  refine wH hH ?_
  obtain ⟨locs, hlo⟩ : ∃ locs : List Loc, locs = [] := ⟨_, rfl⟩
  rw [← hlo] at hS
  refine wL hlo ?_
  unfold D_X12_layTable at hD
  refine lv_iconst (v := (0 : Int32)) C.1 C.2.1 dX12_layTable_0 (by decide) ?_
  refine lv_istore_n (lv' := [(2, .int (0 : Int32)), (0, .ref (g.2.2 31)), (1, .int x1)]) C.1 C.2.1 dX12_layTable_1 rfl hl (by decide) rfl (fun ls hl => ?_)
  exact w_L_X12_layTable_2 C hr N x1 N (0 : Int32) σ H locs ls (lv_sub hl [1, 2, 0] rfl) hP hS hD
abbrev rm_X12_left : Room := { frames := 6, cells := 0, slots := 0, locals := 139 }
set_option maxHeartbeats 4000000 in
set_option maxRecDepth 100000 in
theorem c_X12_left (l : Launch) (g : Gx) (sz : Nat) (N : Nat) (σ : St) {h : Int64} {r : Int32} {u : St} (hD : D_X12_left N σ = some (r, u)) : Met l yX12_left (Cond.code yX12_left cX12_left 1 (some .int) :: tb) rm_X12_left (PcM g h [.ref (g.2.2 31)] σ sz) (QiM g h (AM g sz) r u) 0 0 (AM g sz) := by
  refine Met.ofW (cc := cX12_left) (maxL := 1) (ret := some .int) (by decide) rfl ?_
  intro p e s m args below meth c s₁ B hml hv
  have hv0 := hv
  obtain ⟨rfl, hsz, hP, -⟩ := hv
  subst hsz
  have C : CM g (AM g s.heap.size) p s m _ meth c cX12_left 1 RX12 := CM.of B hml (fun w h => List.mem_cons_of_mem _ h) rfl hv0
  have hr := B.returns
  have hS : va_S (AM g s.heap.size) s.heap s.heap [] := va_S.rf
  have hl := lv_entry ([.ref (g.2.2 31)]) (n := 1) (Nat.le_of_ble_eq_true rfl)
  rw [lg_entry_eq]
  generalize (lg_sl ([.ref (g.2.2 31)]) ++ List.replicate (1 - (lg_sl ([.ref (g.2.2 31)])).length) Slot.unset).toArray = ls at hl ⊢
  have hl : lv_has ls 1 [(0, .ref (g.2.2 31))] := hl
  obtain ⟨H, hH⟩ : ∃ H, H = s.heap := ⟨_, rfl⟩
  have hP : va_P g.1 vwCl (wM g h σ) H := by rw [hH]; exact hP
  have hS : va_S (AM g s.heap.size) s.heap H [] := by rw [hH]; exact hS
  refine wH hH ?_
  obtain ⟨locs, hlo⟩ : ∃ locs : List Loc, locs = [] := ⟨_, rfl⟩
  rw [← hlo] at hS
  refine wL hlo ?_
  unfold D_X12_left at hD
  refine lv_aload_n C.1 C.2.1 dX12_left_0 rfl (lv_at hl 0 rfl) ?_
  obtain ⟨r1, hd1, hD⟩ := bp_some hD
  refine kVi_M (As := []) (rest := []) (ci := 12) (q0 := 0) C (c_X12_lacks l g H.size σ hd1) kw_X12_129 ⟨rfl, rfl⟩ ⟨Nat.le_of_ble_eq_true rfl, Nat.le_of_ble_eq_true rfl⟩ kv_X12_lacks rfl rfl rfl hl.1 (Nat.le_of_ble_eq_true rfl) ⟨Nat.zero_le _, Nat.zero_le _⟩ dX12_left_1 hP hS rfl (fun H locs hP hS => ?_)
  refine lv_if_eq (tgt := 12) C.1 C.2.1 dX12_left_4 (by decide) (fun c2 => ?_) (fun c2 => ?_)
  · have hD := b_t c2 hD
    refine lv_aload_n C.1 C.2.1 dX12_left_12 rfl (lv_at hl 0 rfl) ?_
    obtain ⟨r3, s3, hd3, hD⟩ := bs_some hD
    refine kVi_M (As := []) (rest := []) (ci := 12) (q0 := 0) C (c_X12_leftOf l g H.size N σ hd3) kw_X12_133 ⟨rfl, rfl⟩ ⟨Nat.le_of_ble_eq_true rfl, Nat.le_of_ble_eq_true rfl⟩ kv_X12_leftOf rfl rfl rfl hl.1 (Nat.le_of_ble_eq_true rfl) ⟨Nat.zero_le _, Nat.zero_le _⟩ dX12_left_13 hP hS rfl (fun H locs hP hS => ?_)
    cases hD
    exact ri_M C hr hP hS dX12_left_16
  · have hD := b_f c2 hD
    refine lv_bipush (v := (-103 : Int32)) C.1 C.2.1 dX12_left_7 (by decide) ?_
    refine lv_goto (tgt := 16) C.1 C.2.1 dX12_left_9 (by decide) ?_
    cases hD
    exact ri_M C hr hP hS dX12_left_16
abbrev rm_X12_letter : Room := { frames := 1, cells := 0, slots := 0, locals := 25 }
set_option maxHeartbeats 4000000 in
set_option maxRecDepth 100000 in
theorem c_X12_letter (l : Launch) (g : Gx) (sz : Nat) (σ : St) (x1 : Int32) {h : Int64} {r : Int32} {u : St} (hD : D_X12_letter σ x1 = some (r, u)) : Met l yX12_letter (Cond.code yX12_letter cX12_letter 2 (some .int) :: tb) rm_X12_letter (PcM g h [.ref (g.2.2 31), .int x1] σ sz) (QiM g h (AM g sz) r u) 0 0 (AM g sz) := by
  refine Met.ofW (cc := cX12_letter) (maxL := 2) (ret := some .int) (by decide) rfl ?_
  intro p e s m args below meth c s₁ B hml hv
  have hv0 := hv
  obtain ⟨rfl, hsz, hP, -⟩ := hv
  subst hsz
  have C : CM g (AM g s.heap.size) p s m _ meth c cX12_letter 2 RX12 := CM.of B hml (fun w h => List.mem_cons_of_mem _ h) rfl hv0
  have hr := B.returns
  have hS : va_S (AM g s.heap.size) s.heap s.heap [] := va_S.rf
  have hl := lv_entry ([.ref (g.2.2 31), .int x1]) (n := 2) (Nat.le_of_ble_eq_true rfl)
  rw [lg_entry_eq]
  generalize (lg_sl ([.ref (g.2.2 31), .int x1]) ++ List.replicate (2 - (lg_sl ([.ref (g.2.2 31), .int x1])).length) Slot.unset).toArray = ls at hl ⊢
  have hl : lv_has ls 2 [(0, .ref (g.2.2 31)), (1, .int x1)] := hl
  obtain ⟨H, hH⟩ : ∃ H, H = s.heap := ⟨_, rfl⟩
  have hP : va_P g.1 vwCl (wM g h σ) H := by rw [hH]; exact hP
  have hS : va_S (AM g s.heap.size) s.heap H [] := by rw [hH]; exact hS
  refine wH hH ?_
  obtain ⟨locs, hlo⟩ : ∃ locs : List Loc, locs = [] := ⟨_, rfl⟩
  rw [← hlo] at hS
  refine wL hlo ?_
  unfold D_X12_letter at hD
  refine lv_iload_n C.1 C.2.1 dX12_letter_0 rfl (lv_at hl 1 rfl) ?_
  refine lv_i2l C.1 C.2.1 dX12_letter_1 rfl ?_
  refine lv_lconst (v := (1 : Int64)) C.1 C.2.1 dX12_letter_2 (by decide) ?_
  refine lv_ldc2 (v := (126 : Int64)) (own := RX12) C.1 C.2.1 C.2.2.2.1 (C.2.2.2.2.1 (.constantLong RX12 44 (126 : Int64)) (tb_in 866 (by decide +kernel) (by decide +kernel))) dX12_letter_3 ?_
  obtain ⟨r1, hd1, hD⟩ := bp_some hD
  refine kSi_M (As := [.long x1.toInt64, .long (1 : Int64), .long (126 : Int64)]) (rest := []) C (c_X12_in l g H.size σ x1.toInt64 (1 : Int64) (126 : Int64) hd1) kw_X12_46 ⟨rfl, rfl⟩ ⟨Nat.le_of_ble_eq_true rfl, Nat.le_of_ble_eq_true rfl⟩ ks_X12_in rfl hl.1 (Nat.le_of_ble_eq_true rfl) ⟨Nat.zero_le _, Nat.zero_le _⟩ dX12_letter_6 hP hS rfl (fun H locs hP hS => ?_)
  refine lv_if_ne (tgt := 15) C.1 C.2.1 dX12_letter_9 (by decide) (fun c2 => ?_) (fun c2 => ?_)
  · have hD := b_f c2 hD
    refine lv_aload_n C.1 C.2.1 dX12_letter_15 rfl (lv_at hl 0 rfl) ?_
    refine gf_X12_50_31 C hP dX12_letter_16 ?_
    refine lv_bipush (v := (12 : Int32)) C.1 C.2.1 dX12_letter_19 (by decide) ?_
    refine lv_icmp_ne (tgt := 27) C.1 C.2.1 dX12_letter_21 (by decide) (fun c3 => ?_) (fun c3 => ?_)
    · have hD := b_f c3 hD
      refine lv_aload_n C.1 C.2.1 dX12_letter_27 rfl (lv_at hl 0 rfl) ?_
      refine gf_X12_7_31 C hP dX12_letter_28 ?_
      refine lv_aload_n C.1 C.2.1 dX12_letter_31 rfl (lv_at hl 0 rfl) ?_
      refine gf_X12_50_31 C hP dX12_letter_32 ?_
      refine lv_iload_n C.1 C.2.1 dX12_letter_35 rfl (lv_at hl 1 rfl) ?_
      obtain ⟨hi4, hD⟩ := gi_some hD
      refine isM C hP hS 1 rfl hi4 dX12_letter_36 st_32 (fun H locs hP hS => ?_)
      refine lv_aload_n C.1 C.2.1 dX12_letter_37 rfl (lv_at hl 0 rfl) ?_
      refine lv_dup C.1 C.2.1 dX12_letter_38 rfl ?_
      refine gf_X12_50_31 C hP dX12_letter_39 ?_
      refine w_rd (show (pt σ 32 ((σ 31 1).toNatClampNeg) x1) 31 1 = σ 31 1 from rfl) ?_
      refine lv_iconst (v := (1 : Int32)) C.1 C.2.1 dX12_letter_42 (by decide) ?_
      refine lv_iadd C.1 C.2.1 dX12_letter_43 ?_
      refine pf_X12_50_31 C hP hS dX12_letter_44 (fun H locs hP hS => ?_)
      refine lv_aload_n C.1 C.2.1 dX12_letter_47 rfl (lv_at hl 0 rfl) ?_
      refine gf_X12_50_31 C hP dX12_letter_48 ?_
      refine w_rd (show (pt (pt σ 32 ((σ 31 1).toNatClampNeg) x1) 31 1 ((σ 31 1) + (1 : Int32))) 31 1 = (σ 31 1) + (1 : Int32) from rfl) ?_
      cases hD
      exact ri_M C hr hP hS dX12_letter_51
    · have hD := b_t c3 hD
      refine lv_bipush (v := (-104 : Int32)) C.1 C.2.1 dX12_letter_24 (by decide) ?_
      cases hD
      exact ri_M C hr hP hS dX12_letter_26
  · have hD := b_t c2 hD
    refine lv_bipush (v := (-102 : Int32)) C.1 C.2.1 dX12_letter_12 (by decide) ?_
    cases hD
    exact ri_M C hr hP hS dX12_letter_14
abbrev rm_X12_note : Room := { frames := 6, cells := 0, slots := 0, locals := 139 }
set_option maxHeartbeats 4000000 in
set_option maxRecDepth 100000 in
theorem c_X12_note (l : Launch) (g : Gx) (sz : Nat) (N : Nat) (σ : St) (x1 : Int32) (x2 : Int32) (x3 : Int32) {h : Int64} {r : Int32} {u : St} (hD : D_X12_note N σ x1 x2 x3 = some (r, u)) : Met l yX12_note (Cond.code yX12_note cX12_note 4 (some .int) :: tb) rm_X12_note (PcM g h [.ref (g.2.2 31), .int x1, .int x2, .int x3] σ sz) (QiM g h (AM g sz) r u) 0 0 (AM g sz) := by
  refine Met.ofW (cc := cX12_note) (maxL := 4) (ret := some .int) (by decide) rfl ?_
  intro p e s m args below meth c s₁ B hml hv
  have hv0 := hv
  obtain ⟨rfl, hsz, hP, -⟩ := hv
  subst hsz
  have C : CM g (AM g s.heap.size) p s m _ meth c cX12_note 4 RX12 := CM.of B hml (fun w h => List.mem_cons_of_mem _ h) rfl hv0
  have hr := B.returns
  have hS : va_S (AM g s.heap.size) s.heap s.heap [] := va_S.rf
  have hl := lv_entry ([.ref (g.2.2 31), .int x1, .int x2, .int x3]) (n := 4) (Nat.le_of_ble_eq_true rfl)
  rw [lg_entry_eq]
  generalize (lg_sl ([.ref (g.2.2 31), .int x1, .int x2, .int x3]) ++ List.replicate (4 - (lg_sl ([.ref (g.2.2 31), .int x1, .int x2, .int x3])).length) Slot.unset).toArray = ls at hl ⊢
  have hl : lv_has ls 4 [(0, .ref (g.2.2 31)), (1, .int x1), (2, .int x2), (3, .int x3)] := hl
  obtain ⟨H, hH⟩ : ∃ H, H = s.heap := ⟨_, rfl⟩
  have hP : va_P g.1 vwCl (wM g h σ) H := by rw [hH]; exact hP
  have hS : va_S (AM g s.heap.size) s.heap H [] := by rw [hH]; exact hS
  refine wH hH ?_
  obtain ⟨locs, hlo⟩ : ∃ locs : List Loc, locs = [] := ⟨_, rfl⟩
  rw [← hlo] at hS
  refine wL hlo ?_
  unfold D_X12_note at hD
  refine lv_aload_n C.1 C.2.1 dX12_note_0 rfl (lv_at hl 0 rfl) ?_
  refine lv_iload_n C.1 C.2.1 dX12_note_1 rfl (lv_at hl 1 rfl) ?_
  obtain ⟨r1, hd1, hD⟩ := bp_some hD
  refine kVi_M (As := [.int x1]) (rest := []) (ci := 12) (q0 := 0) C (c_X12_isRow l g H.size σ x1 hd1) kw_X12_113 ⟨rfl, rfl⟩ ⟨Nat.le_of_ble_eq_true rfl, Nat.le_of_ble_eq_true rfl⟩ kv_X12_isRow rfl rfl rfl hl.1 (Nat.le_of_ble_eq_true rfl) ⟨Nat.zero_le _, Nat.zero_le _⟩ dX12_note_2 hP hS rfl (fun H locs hP hS => ?_)
  refine lv_if_eq (tgt := 16) C.1 C.2.1 dX12_note_5 (by decide) (fun c2 => ?_) (fun c2 => ?_)
  · have hD := b_t c2 hD
    refine lv_bipush (v := (-101 : Int32)) C.1 C.2.1 dX12_note_16 (by decide) ?_
    cases hD
    exact ri_M C hr hP hS dX12_note_18
  · have hD := b_f c2 hD
    refine lv_aload_n C.1 C.2.1 dX12_note_8 rfl (lv_at hl 0 rfl) ?_
    refine lv_iload_n C.1 C.2.1 dX12_note_9 rfl (lv_at hl 2 rfl) ?_
    obtain ⟨r3, hd3, hD⟩ := bp_some hD
    refine kVi_M (As := [.int x2]) (rest := []) (ci := 12) (q0 := 0) C (c_X12_isJudge l g H.size σ x2 hd3) kw_X12_110 ⟨rfl, rfl⟩ ⟨Nat.le_of_ble_eq_true rfl, Nat.le_of_ble_eq_true rfl⟩ kv_X12_isJudge rfl rfl rfl hl.1 (Nat.le_of_ble_eq_true rfl) ⟨Nat.zero_le _, Nat.zero_le _⟩ dX12_note_10 hP hS rfl (fun H locs hP hS => ?_)
    refine lv_if_ne (tgt := 19) C.1 C.2.1 dX12_note_13 (by decide) (fun c4 => ?_) (fun c4 => ?_)
    · have hD := b_f c4 hD
      refine lv_iload_n C.1 C.2.1 dX12_note_19 rfl (lv_at hl 3 rfl) ?_
      refine lv_i2l C.1 C.2.1 dX12_note_20 rfl ?_
      refine lv_lconst (v := (0 : Int64)) C.1 C.2.1 dX12_note_21 (by decide) ?_
      refine lv_ldc2 (v := (40 : Int64)) (own := RX12) C.1 C.2.1 C.2.2.2.1 (C.2.2.2.2.1 (.constantLong RX12 165 (40 : Int64)) (tb_in 1020 (by decide +kernel) (by decide +kernel))) dX12_note_22 ?_
      obtain ⟨r5, hd5, hD⟩ := bp_some hD
      refine kSi_M (As := [.long x3.toInt64, .long (0 : Int64), .long (40 : Int64)]) (rest := []) C (c_X12_in l g H.size σ x3.toInt64 (0 : Int64) (40 : Int64) hd5) kw_X12_46 ⟨rfl, rfl⟩ ⟨Nat.le_of_ble_eq_true rfl, Nat.le_of_ble_eq_true rfl⟩ ks_X12_in rfl hl.1 (Nat.le_of_ble_eq_true rfl) ⟨Nat.zero_le _, Nat.zero_le _⟩ dX12_note_25 hP hS rfl (fun H locs hP hS => ?_)
      refine lv_if_ne (tgt := 34) C.1 C.2.1 dX12_note_28 (by decide) (fun c6 => ?_) (fun c6 => ?_)
      · have hD := b_f c6 hD
        refine lv_aload_n C.1 C.2.1 dX12_note_34 rfl (lv_at hl 0 rfl) ?_
        refine gf_X12_93_31 C hP dX12_note_35 ?_
        refine lv_bipush (v := (12 : Int32)) C.1 C.2.1 dX12_note_38 (by decide) ?_
        refine lv_icmp_ne (tgt := 46) C.1 C.2.1 dX12_note_40 (by decide) (fun c7 => ?_) (fun c7 => ?_)
        · have hD := b_f c7 hD
          refine lv_aload_n C.1 C.2.1 dX12_note_46 rfl (lv_at hl 0 rfl) ?_
          refine lv_iload_n C.1 C.2.1 dX12_note_47 rfl (lv_at hl 1 rfl) ?_
          refine lv_iload_n C.1 C.2.1 dX12_note_48 rfl (lv_at hl 2 rfl) ?_
          refine lv_iload_n C.1 C.2.1 dX12_note_49 rfl (lv_at hl 3 rfl) ?_
          obtain ⟨s8, hd8, hD⟩ := bp_some hD
          refine kVv_M (As := [.int x1, .int x2, .int x3]) (rest := []) (ci := 12) (q0 := 0) C (c_X12_keep l g H.size σ x1 x2 x3 hd8) kw_X12_161 ⟨rfl, rfl⟩ ⟨Nat.le_of_ble_eq_true rfl, Nat.le_of_ble_eq_true rfl⟩ kv_X12_keep rfl rfl rfl hl.1 (Nat.le_of_ble_eq_true rfl) ⟨Nat.zero_le _, Nat.zero_le _⟩ dX12_note_50 hP hS rfl (fun H locs hP hS => ?_)
          refine lv_aload_n C.1 C.2.1 dX12_note_53 rfl (lv_at hl 0 rfl) ?_
          obtain ⟨r9, s9, hd9, hD⟩ := bs_some hD
          refine kVi_M (As := []) (rest := []) (ci := 12) (q0 := 0) C (c_X12_leftOf l g H.size N s8 hd9) kw_X12_133 ⟨rfl, rfl⟩ ⟨Nat.le_of_ble_eq_true rfl, Nat.le_of_ble_eq_true rfl⟩ kv_X12_leftOf rfl rfl rfl hl.1 (Nat.le_of_ble_eq_true rfl) ⟨Nat.zero_le _, Nat.zero_le _⟩ dX12_note_54 hP hS rfl (fun H locs hP hS => ?_)
          cases hD
          exact ri_M C hr hP hS dX12_note_57
        · have hD := b_t c7 hD
          refine lv_bipush (v := (-104 : Int32)) C.1 C.2.1 dX12_note_43 (by decide) ?_
          cases hD
          exact ri_M C hr hP hS dX12_note_45
      · have hD := b_t c6 hD
        refine lv_bipush (v := (-102 : Int32)) C.1 C.2.1 dX12_note_31 (by decide) ?_
        cases hD
        exact ri_M C hr hP hS dX12_note_33
    · have hD := b_t c4 hD
      refine lv_bipush (v := (-101 : Int32)) C.1 C.2.1 dX12_note_16 (by decide) ?_
      cases hD
      exact ri_M C hr hP hS dX12_note_18
end WLK
