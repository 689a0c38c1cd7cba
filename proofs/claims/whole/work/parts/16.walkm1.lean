section WLK
variable {p : Program} {l : Launch} {e : Env} {s : State} {m : MethodId} {args : Array Value} {below : List Frame} {meth : Method} {c : Code} {g : Gx} {A : Nat → Prop}
abbrev rm_X12_countOf : Room := { frames := 0, cells := 0, slots := 0, locals := 0 }
set_option maxHeartbeats 4000000 in
set_option maxRecDepth 100000 in
theorem c_X12_countOf (l : Launch) (g : Gx) (sz : Nat) (σ : St) (x1 : Int32) {h : Int64} {r : Int32} (hD : D_X12_countOf σ x1 = some r) : Met l yX12_countOf (Cond.code yX12_countOf cX12_countOf 2 (some .int) :: tb) rm_X12_countOf (PcM g h [.ref (g.2.2 31), .int x1] σ sz) (QiM g h (AM g sz) r σ) 0 0 (AM g sz) := by
  refine Met.ofW (cc := cX12_countOf) (maxL := 2) (ret := some .int) (by decide) rfl ?_
  intro p e s m args below meth c s₁ B hml hv
  have hv0 := hv
  obtain ⟨rfl, hsz, hP, -⟩ := hv
  subst hsz
  have C : CM g (AM g s.heap.size) p s m _ meth c cX12_countOf 2 RX12 := CM.of B hml (fun w h => List.mem_cons_of_mem _ h) rfl hv0
  have hr := B.returns
  have hS : va_S (AM g s.heap.size) s.heap s.heap [] := va_S.rf
  have hl := lv_entry ([.ref (g.2.2 31), .int x1]) (n := 2) (Nat.le_of_ble_eq_true rfl)
  rw [lg_entry_eq]
  generalize (lg_sl ([.ref (g.2.2 31), .int x1]) ++ List.replicate (2 - (lg_sl ([.ref (g.2.2 31), .int x1])).length) Slot.unset).toArray = ls at hl ⊢
  have hl : lv_has ls 2 [(0, .ref (g.2.2 31)), (1, .int x1)] := hl
  obtain ⟨H, hH⟩ : ∃ H, H = s.heap := ⟨_, rfl⟩
  have hP : va_P g.1 vwCl (wM g h σ) H := by rw [hH]; exact hP
  have hS : va_S (AM g s.heap.size) s.heap H [] := by rw [hH]; exact hS
  refine wH hH ?_
  obtain ⟨locs, hlo⟩ : ∃ locs : List Loc, locs = [] := ⟨_, rfl⟩
  rw [← hlo] at hS
  refine wL hlo ?_
  unfold D_X12_countOf at hD
  refine lv_iload_n C.1 C.2.1 dX12_countOf_0 rfl (lv_at hl 1 rfl) ?_
  by_cases c1 : x1 = (0 : Int32)
  · have hD := b_t c1 hD
    refine lv_tableIn (off := 59) (tgt := 60) C.1 C.2.1 dX12_countOf_1 (by rw [c1]; decide) (by rw [c1]; decide) (by rw [c1]; rfl) (by decide) ?_
    refine lv_aload_n C.1 C.2.1 dX12_countOf_60 rfl (lv_at hl 0 rfl) ?_
    refine gf_X12_81_31 C hP dX12_countOf_61 ?_
    cases hD
    exact ri_M C hr hP hS dX12_countOf_64
  · have hD := b_f c1 hD
    by_cases c2 : x1 = (1 : Int32)
    · have hD := b_t c2 hD
      refine lv_tableIn (off := 64) (tgt := 65) C.1 C.2.1 dX12_countOf_1 (by rw [c2]; decide) (by rw [c2]; decide) (by rw [c2]; rfl) (by decide) ?_
      refine lv_aload_n C.1 C.2.1 dX12_countOf_65 rfl (lv_at hl 0 rfl) ?_
      refine gf_X12_84_31 C hP dX12_countOf_66 ?_
      cases hD
      exact ri_M C hr hP hS dX12_countOf_69
    · have hD := b_f c2 hD
      by_cases c3 : x1 = (2 : Int32)
      · have hD := b_t c3 hD
        refine lv_tableIn (off := 69) (tgt := 70) C.1 C.2.1 dX12_countOf_1 (by rw [c3]; decide) (by rw [c3]; decide) (by rw [c3]; rfl) (by decide) ?_
        refine lv_aload_n C.1 C.2.1 dX12_countOf_70 rfl (lv_at hl 0 rfl) ?_
        refine gf_X12_90_31 C hP dX12_countOf_71 ?_
        cases hD
        exact ri_M C hr hP hS dX12_countOf_74
      · have hD := b_f c3 hD
        by_cases c4 : x1 = (3 : Int32)
        · have hD := b_t c4 hD
          refine lv_tableIn (off := 74) (tgt := 75) C.1 C.2.1 dX12_countOf_1 (by rw [c4]; decide) (by rw [c4]; decide) (by rw [c4]; rfl) (by decide) ?_
          refine lv_aload_n C.1 C.2.1 dX12_countOf_75 rfl (lv_at hl 0 rfl) ?_
          refine gf_X12_87_31 C hP dX12_countOf_76 ?_
          cases hD
          exact ri_M C hr hP hS dX12_countOf_79
        · have hD := b_f c4 hD
          by_cases c5 : x1 = (4 : Int32)
          · have hD := b_t c5 hD
            refine lv_tableIn (off := 79) (tgt := 80) C.1 C.2.1 dX12_countOf_1 (by rw [c5]; decide) (by rw [c5]; decide) (by rw [c5]; rfl) (by decide) ?_
            refine lv_aload_n C.1 C.2.1 dX12_countOf_80 rfl (lv_at hl 0 rfl) ?_
            refine gf_X12_93_31 C hP dX12_countOf_81 ?_
            cases hD
            exact ri_M C hr hP hS dX12_countOf_84
          · have hD := b_f c5 hD
            by_cases c6 : x1 = (5 : Int32)
            · have hD := b_t c6 hD
              refine lv_tableIn (off := 84) (tgt := 85) C.1 C.2.1 dX12_countOf_1 (by rw [c6]; decide) (by rw [c6]; decide) (by rw [c6]; rfl) (by decide) ?_
              refine lv_aload_n C.1 C.2.1 dX12_countOf_85 rfl (lv_at hl 0 rfl) ?_
              refine gf_X12_41_31 C hP dX12_countOf_86 ?_
              cases hD
              exact ri_M C hr hP hS dX12_countOf_89
            · have hD := b_f c6 hD
              by_cases c7 : x1 = (6 : Int32)
              · have hD := b_t c7 hD
                refine lv_tableIn (off := 89) (tgt := 90) C.1 C.2.1 dX12_countOf_1 (by rw [c7]; decide) (by rw [c7]; decide) (by rw [c7]; rfl) (by decide) ?_
                refine lv_aload_n C.1 C.2.1 dX12_countOf_90 rfl (lv_at hl 0 rfl) ?_
                refine gf_X12_50_31 C hP dX12_countOf_91 ?_
                cases hD
                exact ri_M C hr hP hS dX12_countOf_94
              · have hD := b_f c7 hD
                by_cases c8 : x1 = (7 : Int32)
                · have hD := b_t c8 hD
                  refine lv_tableIn (off := 94) (tgt := 95) C.1 C.2.1 dX12_countOf_1 (by rw [c8]; decide) (by rw [c8]; decide) (by rw [c8]; rfl) (by decide) ?_
                  refine lv_aload_n C.1 C.2.1 dX12_countOf_95 rfl (lv_at hl 0 rfl) ?_
                  refine gf_X12_96_31 C hP dX12_countOf_96 ?_
                  cases hD
                  exact ri_M C hr hP hS dX12_countOf_99
                · have hD := b_f c8 hD
                  by_cases c9 : x1 = (8 : Int32)
                  · have hD := b_t c9 hD
                    refine lv_tableIn (off := 99) (tgt := 100) C.1 C.2.1 dX12_countOf_1 (by rw [c9]; decide) (by rw [c9]; decide) (by rw [c9]; rfl) (by decide) ?_
                    refine lv_aload_n C.1 C.2.1 dX12_countOf_100 rfl (lv_at hl 0 rfl) ?_
                    refine gf_X12_177_31 C hP dX12_countOf_101 ?_
                    cases hD
                    exact ri_M C hr hP hS dX12_countOf_104
                  · have hD := b_f c9 hD
                    by_cases c10 : x1 = (9 : Int32)
                    · have hD := b_t c10 hD
                      refine lv_tableIn (off := 104) (tgt := 105) C.1 C.2.1 dX12_countOf_1 (by rw [c10]; decide) (by rw [c10]; decide) (by rw [c10]; rfl) (by decide) ?_
                      refine lv_aload_n C.1 C.2.1 dX12_countOf_105 rfl (lv_at hl 0 rfl) ?_
                      refine gf_X12_186_31 C hP dX12_countOf_106 ?_
                      cases hD
                      exact ri_M C hr hP hS dX12_countOf_109
                    · have hD := b_f c10 hD
                      by_cases c11 : x1 = (10 : Int32)
                      · have hD := b_t c11 hD
                        refine lv_tableIn (off := 109) (tgt := 110) C.1 C.2.1 dX12_countOf_1 (by rw [c11]; decide) (by rw [c11]; decide) (by rw [c11]; rfl) (by decide) ?_
                        refine lv_aload_n C.1 C.2.1 dX12_countOf_110 rfl (lv_at hl 0 rfl) ?_
                        refine gf_X12_207_31 C hP dX12_countOf_111 ?_
                        cases hD
                        exact ri_M C hr hP hS dX12_countOf_114
                      · have hD := b_f c11 hD
                        refine lv_tableOut (tgt := 115) C.1 C.2.1 dX12_countOf_1 (by have q1 := lv_neT c1 (a := 0) (by decide); have q2 := lv_neT c2 (a := 1) (by decide); have q3 := lv_neT c3 (a := 2) (by decide); have q4 := lv_neT c4 (a := 3) (by decide); have q5 := lv_neT c5 (a := 4) (by decide); have q6 := lv_neT c6 (a := 5) (by decide); have q7 := lv_neT c7 (a := 6) (by decide); have q8 := lv_neT c8 (a := 7) (by decide); have q9 := lv_neT c9 (a := 8) (by decide); have q10 := lv_neT c10 (a := 9) (by decide); have q11 := lv_neT c11 (a := 10) (by decide); omega) (by decide) ?_
                        refine lv_bipush (v := (-102 : Int32)) C.1 C.2.1 dX12_countOf_115 (by decide) ?_
                        cases hD
                        exact ri_M C hr hP hS dX12_countOf_117
abbrev rm_X12_count : Room := { frames := 1, cells := 0, slots := 0, locals := 21 }
set_option maxHeartbeats 4000000 in
set_option maxRecDepth 100000 in
theorem c_X12_count (l : Launch) (g : Gx) (sz : Nat) (σ : St) (x1 : Int32) {h : Int64} {r : Int32} (hD : D_X12_count σ x1 = some r) : Met l yX12_count (Cond.code yX12_count cX12_count 2 (some .int) :: tb) rm_X12_count (PcM g h [.ref (g.2.2 31), .int x1] σ sz) (QiM g h (AM g sz) r σ) 0 0 (AM g sz) := by
  refine Met.ofW (cc := cX12_count) (maxL := 2) (ret := some .int) (by decide) rfl ?_
  intro p e s m args below meth c s₁ B hml hv
  have hv0 := hv
  obtain ⟨rfl, hsz, hP, -⟩ := hv
  subst hsz
  have C : CM g (AM g s.heap.size) p s m _ meth c cX12_count 2 RX12 := CM.of B hml (fun w h => List.mem_cons_of_mem _ h) rfl hv0
  have hr := B.returns
  have hS : va_S (AM g s.heap.size) s.heap s.heap [] := va_S.rf
  have hl := lv_entry ([.ref (g.2.2 31), .int x1]) (n := 2) (Nat.le_of_ble_eq_true rfl)
  rw [lg_entry_eq]
  generalize (lg_sl ([.ref (g.2.2 31), .int x1]) ++ List.replicate (2 - (lg_sl ([.ref (g.2.2 31), .int x1])).length) Slot.unset).toArray = ls at hl ⊢
  have hl : lv_has ls 2 [(0, .ref (g.2.2 31)), (1, .int x1)] := hl
  obtain ⟨H, hH⟩ : ∃ H, H = s.heap := ⟨_, rfl⟩
  have hP : va_P g.1 vwCl (wM g h σ) H := by rw [hH]; exact hP
  have hS : va_S (AM g s.heap.size) s.heap H [] := by rw [hH]; exact hS
  refine wH hH ?_
  obtain ⟨locs, hlo⟩ : ∃ locs : List Loc, locs = [] := ⟨_, rfl⟩
  rw [← hlo] at hS
  refine wL hlo ?_
  unfold D_X12_count at hD
  refine lv_aload_n C.1 C.2.1 dX12_count_0 rfl (lv_at hl 0 rfl) ?_
  refine lv_iload_n C.1 C.2.1 dX12_count_1 rfl (lv_at hl 1 rfl) ?_
  obtain ⟨r1, hd1, hD⟩ := bp_some hD
  refine kVi_M (As := [.int x1]) (rest := []) (ci := 12) (q0 := 0) C (c_X12_countOf l g H.size σ x1 hd1) kw_X12_244 ⟨rfl, rfl⟩ ⟨Nat.le_of_ble_eq_true rfl, Nat.le_of_ble_eq_true rfl⟩ kv_X12_countOf rfl rfl rfl hl.1 (Nat.le_of_ble_eq_true rfl) ⟨Nat.zero_le _, Nat.zero_le _⟩ dX12_count_2 hP hS rfl (fun H locs hP hS => ?_)
  cases hD
  exact ri_M C hr hP hS dX12_count_5
abbrev rm_X12_isTwin : Room := { frames := 3, cells := 0, slots := 0, locals := 75 }
set_option maxHeartbeats 4000000 in
set_option maxRecDepth 100000 in
theorem w_L_X12_isTwin_3 (C : CM g A p s m args meth c cX12_isTwin 5 RX12) (hr : meth.sig.returnType = some .boolean) (N : Nat) (σ : St) {h : Int64} {r : Int32} (x1 : Int32) (x2 : Int32) (x3 : Int32) : ∀ (n : Nat) (x4 : Int32) (H : Heap) (locs : List Loc) (ls : Array Slot), lv_has ls 5 [(0, .ref (g.2.2 31)), (1, .int x1), (2, .int x2), (3, .int x3), (4, .int x4)] → va_P g.1 vwCl (wM g h σ) H → va_S A s.heap H locs → L_X12_isTwin_3 N σ x1 x2 x3 n x4 = some r → W p l e rm_X12_isTwin s m args below meth c H locs 0 0 (MQ below (QiM g h A r σ) args s 0 0 A) (F0 m 3 ls []) := by
  intro n
  induction n with
  | zero =>
    intro x4 H locs ls hl hP hS hD
    rw [L_X12_isTwin_3] at hD
    cases hD
  | succ n ih =>
    intro x4 H locs ls hl hP hS hD
    rw [L_X12_isTwin_3] at hD
    refine lv_iload C.1 C.2.1 dX12_isTwin_3 (lv_at hl 4 rfl) ?_
    refine lv_aload_n C.1 C.2.1 dX12_isTwin_5 rfl (lv_at hl 0 rfl) ?_
    refine gf_X12_90_31 C hP dX12_isTwin_6 ?_
    refine lv_icmp_ge (tgt := 39) C.1 C.2.1 dX12_isTwin_9 (by decide) (fun c1 => ?_) (fun c1 => ?_)
    · have hD := b_t c1 hD
      refine lv_iconst (v := (1 : Int32)) C.1 C.2.1 dX12_isTwin_39 (by decide) ?_
      cases hD
      exact rz_M C hr (Or.inr rfl) hP hS dX12_isTwin_40
    · have hD := b_f c1 hD
      refine lv_aload_n C.1 C.2.1 dX12_isTwin_12 rfl (lv_at hl 0 rfl) ?_
      refine lv_iload_n C.1 C.2.1 dX12_isTwin_13 rfl (lv_at hl 1 rfl) ?_
      refine lv_iload C.1 C.2.1 dX12_isTwin_14 (lv_at hl 4 rfl) ?_
      refine lv_iload_n C.1 C.2.1 dX12_isTwin_16 rfl (lv_at hl 2 rfl) ?_
      obtain ⟨r2, hd2, hD⟩ := bp_some hD
      refine kVi_M (As := [.int x1, .int x4, .int x2]) (rest := []) (ci := 12) (q0 := 0) C (c_X12_tellsBy l g H.size N σ x1 x4 x2 hd2) kw_X12_116 ⟨rfl, rfl⟩ ⟨Nat.le_of_ble_eq_true rfl, Nat.le_of_ble_eq_true rfl⟩ kv_X12_tellsBy rfl rfl rfl hl.1 (Nat.le_of_ble_eq_true rfl) ⟨Nat.zero_le _, Nat.zero_le _⟩ dX12_isTwin_17 hP hS rfl (fun H locs hP hS => ?_)
      refine lv_aload_n C.1 C.2.1 dX12_isTwin_20 rfl (lv_at hl 0 rfl) ?_
      refine lv_iload_n C.1 C.2.1 dX12_isTwin_21 rfl (lv_at hl 1 rfl) ?_
      refine lv_iload C.1 C.2.1 dX12_isTwin_22 (lv_at hl 4 rfl) ?_
      refine lv_iload_n C.1 C.2.1 dX12_isTwin_24 rfl (lv_at hl 3 rfl) ?_
      obtain ⟨r3, hd3, hD⟩ := bp_some hD
      refine kVi_M (As := [.int x1, .int x4, .int x3]) (rest := [.int r2]) (ci := 12) (q0 := 0) C (c_X12_tellsBy l g H.size N σ x1 x4 x3 hd3) kw_X12_116 ⟨rfl, rfl⟩ ⟨Nat.le_of_ble_eq_true rfl, Nat.le_of_ble_eq_true rfl⟩ kv_X12_tellsBy rfl rfl rfl hl.1 (Nat.le_of_ble_eq_true rfl) ⟨Nat.zero_le _, Nat.zero_le _⟩ dX12_isTwin_25 hP hS rfl (fun H locs hP hS => ?_)
      refine lv_icmp_eq (tgt := 33) C.1 C.2.1 dX12_isTwin_28 (by decide) (fun c4 => ?_) (fun c4 => ?_)
      · have hD := b_t c4 hD
        refine lv_iinc (v := x4 + (1 : Int32)) (lv' := [(4, .int (x4 + (1 : Int32))), (0, .ref (g.2.2 31)), (1, .int x1), (2, .int x2), (3, .int x3)]) C.1 C.2.1 dX12_isTwin_33 hl (k := 4) rfl rfl (by decide) rfl (fun ls hl => ?_)
        refine lv_goto (tgt := 3) C.1 C.2.1 dX12_isTwin_36 (by decide) ?_
        exact ih (x4 + (1 : Int32)) H locs ls (lv_sub hl [1, 2, 3, 4, 0] rfl) hP hS hD
      · have hD := b_f c4 hD
        refine lv_iconst (v := (0 : Int32)) C.1 C.2.1 dX12_isTwin_31 (by decide) ?_
        cases hD
        exact rz_M C hr (Or.inl rfl) hP hS dX12_isTwin_32
set_option maxHeartbeats 4000000 in
set_option maxRecDepth 100000 in
theorem c_X12_isTwin (l : Launch) (g : Gx) (sz : Nat) (N : Nat) (σ : St) (x1 : Int32) (x2 : Int32) (x3 : Int32) {h : Int64} {r : Int32} (hD : D_X12_isTwin N σ x1 x2 x3 = some r) : Met l yX12_isTwin (Cond.code yX12_isTwin cX12_isTwin 5 (some .boolean) :: tb) rm_X12_isTwin (PcM g h [.ref (g.2.2 31), .int x1, .int x2, .int x3] σ sz) (QiM g h (AM g sz) r σ) 0 0 (AM g sz) := by
  refine Met.ofW (cc := cX12_isTwin) (maxL := 5) (ret := some .boolean) (by decide) rfl ?_
  intro p e s m args below meth c s₁ B hml hv
  have hv0 := hv
  obtain ⟨rfl, hsz, hP, -⟩ := hv
  subst hsz
  have C : CM g (AM g s.heap.size) p s m _ meth c cX12_isTwin 5 RX12 := CM.of B hml (fun w h => List.mem_cons_of_mem _ h) rfl hv0
  have hr := B.returns
  have hS : va_S (AM g s.heap.size) s.heap s.heap [] := va_S.rf
  have hl := lv_entry ([.ref (g.2.2 31), .int x1, .int x2, .int x3]) (n := 5) (Nat.le_of_ble_eq_true rfl)
  rw [lg_entry_eq]
  generalize (lg_sl ([.ref (g.2.2 31), .int x1, .int x2, .int x3]) ++ List.replicate (5 - (lg_sl ([.ref (g.2.2 31), .int x1, .int x2, .int x3])).length) Slot.unset).toArray = ls at hl ⊢
  have hl : lv_has ls 5 [(0, .ref (g.2.2 31)), (1, .int x1), (2, .int x2), (3, .int x3)] := hl
  obtain ⟨H, hH⟩ : ∃ H, H = s.heap := ⟨_, rfl⟩
  have hP : va_P g.1 vwCl (wM g h σ) H := by rw [hH]; exact hP
  have hS : va_S (AM g s.heap.size) s.heap H [] := by rw [hH]; exact hS
  refine wH hH ?_
  obtain ⟨locs, hlo⟩ : ∃ locs : List Loc, locs = [] := ⟨_, rfl⟩
  rw [← hlo] at hS
  refine wL hlo ?_
  unfold D_X12_isTwin at hD
  refine lv_iconst (v := (0 : Int32)) C.1 C.2.1 dX12_isTwin_0 (by decide) ?_
  refine lv_istore (lv' := [(4, .int (0 : Int32)), (0, .ref (g.2.2 31)), (1, .int x1), (2, .int x2), (3, .int x3)]) C.1 C.2.1 dX12_isTwin_1 hl (by decide) rfl (fun ls hl => ?_)
  exact w_L_X12_isTwin_3 C hr N σ x1 x2 x3 N (0 : Int32) H locs ls (lv_sub hl [1, 2, 3, 4, 0] rfl) hP hS hD
abbrev rm_X12_twinsOf : Room := { frames := 4, cells := 0, slots := 0, locals := 99 }
set_option maxHeartbeats 4000000 in
set_option maxRecDepth 100000 in
theorem w_L_X12_twinsOf_14 (C : CM g A p s m args meth c cX12_twinsOf 4 RX12) (hr : meth.sig.returnType = some .int) (N : Nat) (σ : St) {h : Int64} {r : Int32} (kc2 : Int32 → Option Int32) (x1 : Int32) (x2 : Int32) (hk2 : ∀ (x2 : Int32) (H : Heap) (locs : List Loc) (ls : Array Slot), lv_has ls 4 [(0, .ref (g.2.2 31)), (1, .int x1), (2, .int x2)] → va_P g.1 vwCl (wM g h σ) H → va_S A s.heap H locs → kc2 x2 = some r → W p l e rm_X12_twinsOf s m args below meth c H locs 0 0 (MQ below (QiM g h A r σ) args s 0 0 A) (F0 m 2 ls [])) : ∀ (n : Nat) (x3 : Int32) (H : Heap) (locs : List Loc) (ls : Array Slot), lv_has ls 4 [(0, .ref (g.2.2 31)), (1, .int x1), (2, .int x2), (3, .int x3)] → va_P g.1 vwCl (wM g h σ) H → va_S A s.heap H locs → L_X12_twinsOf_14 N σ kc2 x1 x2 n x3 = some r → W p l e rm_X12_twinsOf s m args below meth c H locs 0 0 (MQ below (QiM g h A r σ) args s 0 0 A) (F0 m 14 ls []) := by
  intro n
  induction n with
  | zero =>
    intro x3 H locs ls hl hP hS hD
    rw [L_X12_twinsOf_14] at hD
    cases hD
  | succ n ih =>
    intro x3 H locs ls hl hP hS hD
    rw [L_X12_twinsOf_14] at hD
    refine lv_iload_n C.1 C.2.1 dX12_twinsOf_14 rfl (lv_at hl 3 rfl) ?_
    refine lv_aload_n C.1 C.2.1 dX12_twinsOf_15 rfl (lv_at hl 0 rfl) ?_
    refine gf_X12_90_31 C hP dX12_twinsOf_16 ?_
    refine lv_icmp_ge (tgt := 51) C.1 C.2.1 dX12_twinsOf_19 (by decide) (fun c2 => ?_) (fun c2 => ?_)
    · have hD := b_t c2 hD
      refine lv_iinc (v := x2 + (1 : Int32)) (lv' := [(2, .int (x2 + (1 : Int32))), (0, .ref (g.2.2 31)), (1, .int x1), (3, .int x3)]) C.1 C.2.1 dX12_twinsOf_51 hl (k := 2) rfl rfl (by decide) rfl (fun ls hl => ?_)
      refine lv_goto (tgt := 2) C.1 C.2.1 dX12_twinsOf_54 (by decide) ?_
      exact hk2 (x2 + (1 : Int32)) H locs ls (lv_sub hl [1, 2, 0] rfl) hP hS hD
    · have hD := b_f c2 hD
      refine lv_aload_n C.1 C.2.1 dX12_twinsOf_22 rfl (lv_at hl 0 rfl) ?_
      refine lv_aload_n C.1 C.2.1 dX12_twinsOf_23 rfl (lv_at hl 0 rfl) ?_
      refine gf_X12_13_31 C hP dX12_twinsOf_24 ?_
      refine lv_iload_n C.1 C.2.1 dX12_twinsOf_27 rfl (lv_at hl 1 rfl) ?_
      obtain ⟨hi3, hD⟩ := gi_some hD
      refine iaM C hP 2 rfl hi3 dX12_twinsOf_28 ?_
      refine lv_iload_n C.1 C.2.1 dX12_twinsOf_29 rfl (lv_at hl 2 rfl) ?_
      refine lv_iload_n C.1 C.2.1 dX12_twinsOf_30 rfl (lv_at hl 3 rfl) ?_
      obtain ⟨r4, hd4, hD⟩ := bp_some hD
      refine kVi_M (As := [.int (σ 33 x1.toNatClampNeg), .int x2, .int x3]) (rest := []) (ci := 12) (q0 := 0) C (c_X12_isTwin l g H.size N σ (σ 33 x1.toNatClampNeg) x2 x3 hd4) kw_X12_192 ⟨rfl, rfl⟩ ⟨Nat.le_of_ble_eq_true rfl, Nat.le_of_ble_eq_true rfl⟩ kv_X12_isTwin rfl rfl rfl hl.1 (Nat.le_of_ble_eq_true rfl) ⟨Nat.zero_le _, Nat.zero_le _⟩ dX12_twinsOf_31 hP hS rfl (fun H locs hP hS => ?_)
      refine lv_if_eq (tgt := 45) C.1 C.2.1 dX12_twinsOf_34 (by decide) (fun c5 => ?_) (fun c5 => ?_)
      · have hD := b_t c5 hD
        refine lv_iinc (v := x3 + (1 : Int32)) (lv' := [(3, .int (x3 + (1 : Int32))), (0, .ref (g.2.2 31)), (1, .int x1), (2, .int x2)]) C.1 C.2.1 dX12_twinsOf_45 hl (k := 3) rfl rfl (by decide) rfl (fun ls hl => ?_)
        refine lv_goto (tgt := 14) C.1 C.2.1 dX12_twinsOf_48 (by decide) ?_
        exact ih (x3 + (1 : Int32)) H locs ls (lv_sub hl [1, 2, 3, 0] rfl) hP hS hD
      · have hD := b_f c5 hD
        refine lv_sipush (v := (1000 : Int32)) C.1 C.2.1 dX12_twinsOf_37 (by decide) ?_
        refine lv_iload_n C.1 C.2.1 dX12_twinsOf_40 rfl (lv_at hl 2 rfl) ?_
        refine lv_imul C.1 C.2.1 dX12_twinsOf_41 ?_
        refine lv_iload_n C.1 C.2.1 dX12_twinsOf_42 rfl (lv_at hl 3 rfl) ?_
        refine lv_iadd C.1 C.2.1 dX12_twinsOf_43 ?_
        cases hD
        exact ri_M C hr hP hS dX12_twinsOf_44
set_option maxHeartbeats 4000000 in
set_option maxRecDepth 100000 in
theorem w_L_X12_twinsOf_2 (C : CM g A p s m args meth c cX12_twinsOf 4 RX12) (hr : meth.sig.returnType = some .int) (N : Nat) (σ : St) {h : Int64} {r : Int32} (x1 : Int32) : ∀ (n : Nat) (x2 : Int32) (H : Heap) (locs : List Loc) (ls : Array Slot), lv_has ls 4 [(0, .ref (g.2.2 31)), (1, .int x1), (2, .int x2)] → va_P g.1 vwCl (wM g h σ) H → va_S A s.heap H locs → L_X12_twinsOf_2 N σ x1 n x2 = some r → W p l e rm_X12_twinsOf s m args below meth c H locs 0 0 (MQ below (QiM g h A r σ) args s 0 0 A) (F0 m 2 ls []) := by
  intro n
  induction n with
  | zero =>
    intro x2 H locs ls hl hP hS hD
    rw [L_X12_twinsOf_2] at hD
    cases hD
  | succ n ih =>
    intro x2 H locs ls hl hP hS hD
    rw [L_X12_twinsOf_2] at hD
    refine lv_iload_n C.1 C.2.1 dX12_twinsOf_2 rfl (lv_at hl 2 rfl) ?_
    refine lv_aload_n C.1 C.2.1 dX12_twinsOf_3 rfl (lv_at hl 0 rfl) ?_
    refine gf_X12_90_31 C hP dX12_twinsOf_4 ?_
    refine lv_icmp_ge (tgt := 57) C.1 C.2.1 dX12_twinsOf_7 (by decide) (fun c1 => ?_) (fun c1 => ?_)
    · have hD := b_t c1 hD
      refine lv_iconst (v := (-1 : Int32)) C.1 C.2.1 dX12_twinsOf_57 (by decide) ?_
      cases hD
      exact ri_M C hr hP hS dX12_twinsOf_58
    · have hD := b_f c1 hD
      refine lv_iload_n C.1 C.2.1 dX12_twinsOf_10 rfl (lv_at hl 2 rfl) ?_
      refine lv_iconst (v := (1 : Int32)) C.1 C.2.1 dX12_twinsOf_11 (by decide) ?_
      refine lv_iadd C.1 C.2.1 dX12_twinsOf_12 ?_
      refine lv_istore_n (lv' := [(3, .int (x2 + (1 : Int32))), (0, .ref (g.2.2 31)), (1, .int x1), (2, .int x2)]) C.1 C.2.1 dX12_twinsOf_13 rfl hl (by decide) rfl (fun ls hl => ?_)
      exact w_L_X12_twinsOf_14 C hr N σ (L_X12_twinsOf_2 N σ x1 n) x1 x2 ih N (x2 + (1 : Int32)) H locs ls (lv_sub hl [1, 2, 3, 0] rfl) hP hS hD
set_option maxHeartbeats 4000000 in
set_option maxRecDepth 100000 in
theorem c_X12_twinsOf (l : Launch) (g : Gx) (sz : Nat) (N : Nat) (σ : St) (x1 : Int32) {h : Int64} {r : Int32} (hD : D_X12_twinsOf N σ x1 = some r) : Met l yX12_twinsOf (Cond.code yX12_twinsOf cX12_twinsOf 4 (some .int) :: tb) rm_X12_twinsOf (PcM g h [.ref (g.2.2 31), .int x1] σ sz) (QiM g h (AM g sz) r σ) 0 0 (AM g sz) := by
  refine Met.ofW (cc := cX12_twinsOf) (maxL := 4) (ret := some .int) (by decide) rfl ?_
  intro p e s m args below meth c s₁ B hml hv
  have hv0 := hv
  obtain ⟨rfl, hsz, hP, -⟩ := hv
  subst hsz
  have C : CM g (AM g s.heap.size) p s m _ meth c cX12_twinsOf 4 RX12 := CM.of B hml (fun w h => List.mem_cons_of_mem _ h) rfl hv0
  have hr := B.returns
  have hS : va_S (AM g s.heap.size) s.heap s.heap [] := va_S.rf
  have hl := lv_entry ([.ref (g.2.2 31), .int x1]) (n := 4) (Nat.le_of_ble_eq_true rfl)
  rw [lg_entry_eq]
  generalize (lg_sl ([.ref (g.2.2 31), .int x1]) ++ List.replicate (4 - (lg_sl ([.ref (g.2.2 31), .int x1])).length) Slot.unset).toArray = ls at hl ⊢
  have hl : lv_has ls 4 [(0, .ref (g.2.2 31)), (1, .int x1)] := hl
  obtain ⟨H, hH⟩ : ∃ H, H = s.heap := ⟨_, rfl⟩
  have hP : va_P g.1 vwCl (wM g h σ) H := by rw [hH]; exact hP
  have hS : va_S (AM g s.heap.size) s.heap H [] := by rw [hH]; exact hS
  refine wH hH ?_
  obtain ⟨locs, hlo⟩ : ∃ locs : List Loc, locs = [] := ⟨_, rfl⟩
  rw [← hlo] at hS
  refine wL hlo ?_
  unfold D_X12_twinsOf at hD
  refine lv_iconst (v := (0 : Int32)) C.1 C.2.1 dX12_twinsOf_0 (by decide) ?_
  refine lv_istore_n (lv' := [(2, .int (0 : Int32)), (0, .ref (g.2.2 31)), (1, .int x1)]) C.1 C.2.1 dX12_twinsOf_1 rfl hl (by decide) rfl (fun ls hl => ?_)
  exact w_L_X12_twinsOf_2 C hr N σ x1 N (0 : Int32) H locs ls (lv_sub hl [1, 2, 0] rfl) hP hS hD
abbrev rm_X12_sortsOf : Room := { frames := 3, cells := 0, slots := 0, locals := 75 }
set_option maxHeartbeats 4000000 in
set_option maxRecDepth 100000 in
theorem w_L_X12_sortsOf_15 (C : CM g A p s m args meth c cX12_sortsOf 6 RX12) (hr : meth.sig.returnType = some .int) (N : Nat) (σ : St) {h : Int64} {r : Int32} (kc4 : Int32 → Int32 → Option Int32) (x1 : Int32) (x2 : Int32) (x3 : Int32) (hk4 : ∀ (x2 : Int32) (x3 : Int32) (H : Heap) (locs : List Loc) (ls : Array Slot), lv_has ls 6 [(0, .ref (g.2.2 31)), (1, .int x1), (2, .int x2), (3, .int x3)] → va_P g.1 vwCl (wM g h σ) H → va_S A s.heap H locs → kc4 x2 x3 = some r → W p l e rm_X12_sortsOf s m args below meth c H locs 0 0 (MQ below (QiM g h A r σ) args s 0 0 A) (F0 m 4 ls [])) : ∀ (n : Nat) (x4 : Int32) (x5 : Int32) (H : Heap) (locs : List Loc) (ls : Array Slot), lv_has ls 6 [(0, .ref (g.2.2 31)), (1, .int x1), (2, .int x2), (3, .int x3), (4, .int x4), (5, .int x5)] → va_P g.1 vwCl (wM g h σ) H → va_S A s.heap H locs → L_X12_sortsOf_15 N σ kc4 x1 x2 x3 n x4 x5 = some r → W p l e rm_X12_sortsOf s m args below meth c H locs 0 0 (MQ below (QiM g h A r σ) args s 0 0 A) (F0 m 15 ls []) := by
  intro n
  induction n with
  | zero =>
    intro x4 x5 H locs ls hl hP hS hD
    rw [L_X12_sortsOf_15] at hD
    cases hD
  | succ n ih =>
    intro x4 x5 H locs ls hl hP hS hD
    rw [L_X12_sortsOf_15] at hD
    refine lv_iload C.1 C.2.1 dX12_sortsOf_15 (lv_at hl 5 rfl) ?_
    refine lv_iconst (v := (3 : Int32)) C.1 C.2.1 dX12_sortsOf_17 (by decide) ?_
    refine lv_aload_n C.1 C.2.1 dX12_sortsOf_18 rfl (lv_at hl 0 rfl) ?_
    refine gf_X12_93_31 C hP dX12_sortsOf_19 ?_
    refine lv_imul C.1 C.2.1 dX12_sortsOf_22 ?_
    refine lv_icmp_ge (tgt := 85) C.1 C.2.1 dX12_sortsOf_23 (by decide) (fun c2 => ?_) (fun c2 => ?_)
    · have hD := b_t c2 hD
      refine lv_iload_n C.1 C.2.1 dX12_sortsOf_85 rfl (lv_at hl 2 rfl) ?_
      refine lv_iload C.1 C.2.1 dX12_sortsOf_86 (lv_at hl 4 rfl) ?_
      refine lv_if_eq (tgt := 97) C.1 C.2.1 dX12_sortsOf_88 (by decide) (fun c3 => ?_) (fun c3 => ?_)
      · have hD := b_t c3 hD
        refine lv_iconst (v := (0 : Int32)) C.1 C.2.1 dX12_sortsOf_97 (by decide) ?_
        refine lv_ior C.1 C.2.1 dX12_sortsOf_98 ?_
        refine lv_istore_n (lv' := [(2, .int (x2 ||| (0 : Int32))), (0, .ref (g.2.2 31)), (1, .int x1), (3, .int x3), (4, .int x4), (5, .int x5)]) C.1 C.2.1 dX12_sortsOf_99 rfl hl (by decide) rfl (fun ls hl => ?_)
        refine lv_iinc (v := x3 + (1 : Int32)) (lv' := [(3, .int (x3 + (1 : Int32))), (2, .int (x2 ||| (0 : Int32))), (0, .ref (g.2.2 31)), (1, .int x1), (4, .int x4), (5, .int x5)]) C.1 C.2.1 dX12_sortsOf_100 hl (k := 3) rfl rfl (by decide) rfl (fun ls hl => ?_)
        refine lv_goto (tgt := 4) C.1 C.2.1 dX12_sortsOf_103 (by decide) ?_
        exact hk4 (x2 ||| (0 : Int32)) (x3 + (1 : Int32)) H locs ls (lv_sub hl [2, 3, 1, 0] rfl) hP hS hD
      · have hD := b_f c3 hD
        refine lv_iconst (v := (1 : Int32)) C.1 C.2.1 dX12_sortsOf_91 (by decide) ?_
        refine lv_iload_n C.1 C.2.1 dX12_sortsOf_92 rfl (lv_at hl 3 rfl) ?_
        refine lv_ishl C.1 C.2.1 dX12_sortsOf_93 ?_
        refine lv_goto (tgt := 98) C.1 C.2.1 dX12_sortsOf_94 (by decide) ?_
        refine lv_ior C.1 C.2.1 dX12_sortsOf_98 ?_
        refine lv_istore_n (lv' := [(2, .int (x2 ||| ((1 : Int32) <<< (x3 &&& 31)))), (0, .ref (g.2.2 31)), (1, .int x1), (3, .int x3), (4, .int x4), (5, .int x5)]) C.1 C.2.1 dX12_sortsOf_99 rfl hl (by decide) rfl (fun ls hl => ?_)
        refine lv_iinc (v := x3 + (1 : Int32)) (lv' := [(3, .int (x3 + (1 : Int32))), (2, .int (x2 ||| ((1 : Int32) <<< (x3 &&& 31)))), (0, .ref (g.2.2 31)), (1, .int x1), (4, .int x4), (5, .int x5)]) C.1 C.2.1 dX12_sortsOf_100 hl (k := 3) rfl rfl (by decide) rfl (fun ls hl => ?_)
        refine lv_goto (tgt := 4) C.1 C.2.1 dX12_sortsOf_103 (by decide) ?_
        exact hk4 (x2 ||| ((1 : Int32) <<< (x3 &&& 31))) (x3 + (1 : Int32)) H locs ls (lv_sub hl [2, 3, 1, 0] rfl) hP hS hD
    · have hD := b_f c2 hD
      refine lv_iload C.1 C.2.1 dX12_sortsOf_26 (lv_at hl 4 rfl) ?_
      refine lv_if_eq (tgt := 76) C.1 C.2.1 dX12_sortsOf_28 (by decide) (fun c4 => ?_) (fun c4 => ?_)
      · have hD := b_t c4 hD
        refine lv_iconst (v := (0 : Int32)) C.1 C.2.1 dX12_sortsOf_76 (by decide) ?_
        refine lv_istore (lv' := [(4, .int (0 : Int32)), (0, .ref (g.2.2 31)), (1, .int x1), (2, .int x2), (3, .int x3), (5, .int x5)]) C.1 C.2.1 dX12_sortsOf_77 hl (by decide) rfl (fun ls hl => ?_)
        refine lv_iinc (v := x5 + (3 : Int32)) (lv' := [(5, .int (x5 + (3 : Int32))), (4, .int (0 : Int32)), (0, .ref (g.2.2 31)), (1, .int x1), (2, .int x2), (3, .int x3)]) C.1 C.2.1 dX12_sortsOf_79 hl (k := 5) rfl rfl (by decide) rfl (fun ls hl => ?_)
        refine lv_goto (tgt := 15) C.1 C.2.1 dX12_sortsOf_82 (by decide) ?_
        exact ih (0 : Int32) (x5 + (3 : Int32)) H locs ls (lv_sub hl [2, 3, 4, 5, 1, 0] rfl) hP hS hD
      · have hD := b_f c4 hD
        refine lv_aload_n C.1 C.2.1 dX12_sortsOf_31 rfl (lv_at hl 0 rfl) ?_
        refine gf_X12_16_31 C hP dX12_sortsOf_32 ?_
        refine lv_iload C.1 C.2.1 dX12_sortsOf_35 (lv_at hl 5 rfl) ?_
        refine lv_iconst (v := (1 : Int32)) C.1 C.2.1 dX12_sortsOf_37 (by decide) ?_
        refine lv_iadd C.1 C.2.1 dX12_sortsOf_38 ?_
        obtain ⟨hi5, hD⟩ := gi_some hD
        refine iaM C hP 3 rfl hi5 dX12_sortsOf_39 ?_
        refine lv_iload_n C.1 C.2.1 dX12_sortsOf_40 rfl (lv_at hl 1 rfl) ?_
        refine lv_icmp_ne (tgt := 72) C.1 C.2.1 dX12_sortsOf_41 (by decide) (fun c6 => ?_) (fun c6 => ?_)
        · have hD := b_f c6 hD
          refine lv_iconst (v := (1 : Int32)) C.1 C.2.1 dX12_sortsOf_72 (by decide) ?_
          refine lv_goto (tgt := 77) C.1 C.2.1 dX12_sortsOf_73 (by decide) ?_
          refine lv_istore (lv' := [(4, .int (1 : Int32)), (0, .ref (g.2.2 31)), (1, .int x1), (2, .int x2), (3, .int x3), (5, .int x5)]) C.1 C.2.1 dX12_sortsOf_77 hl (by decide) rfl (fun ls hl => ?_)
          refine lv_iinc (v := x5 + (3 : Int32)) (lv' := [(5, .int (x5 + (3 : Int32))), (4, .int (1 : Int32)), (0, .ref (g.2.2 31)), (1, .int x1), (2, .int x2), (3, .int x3)]) C.1 C.2.1 dX12_sortsOf_79 hl (k := 5) rfl rfl (by decide) rfl (fun ls hl => ?_)
          refine lv_goto (tgt := 15) C.1 C.2.1 dX12_sortsOf_82 (by decide) ?_
          exact ih (1 : Int32) (x5 + (3 : Int32)) H locs ls (lv_sub hl [2, 3, 4, 5, 1, 0] rfl) hP hS hD
        · have hD := b_t c6 hD
          refine lv_aload_n C.1 C.2.1 dX12_sortsOf_44 rfl (lv_at hl 0 rfl) ?_
          refine lv_iload_n C.1 C.2.1 dX12_sortsOf_45 rfl (lv_at hl 3 rfl) ?_
          refine lv_aload_n C.1 C.2.1 dX12_sortsOf_46 rfl (lv_at hl 0 rfl) ?_
          refine gf_X12_16_31 C hP dX12_sortsOf_47 ?_
          refine lv_iload C.1 C.2.1 dX12_sortsOf_50 (lv_at hl 5 rfl) ?_
          obtain ⟨hi7, hD⟩ := gi_some hD
          refine iaM C hP 3 rfl hi7 dX12_sortsOf_52 ?_
          refine lv_aload_n C.1 C.2.1 dX12_sortsOf_53 rfl (lv_at hl 0 rfl) ?_
          refine gf_X12_41_31 C hP dX12_sortsOf_54 ?_
          obtain ⟨r8, hd8, hD⟩ := bp_some hD
          refine kVi_M (As := [.int x3, .int (σ 34 x5.toNatClampNeg), .int (σ 31 7)]) (rest := []) (ci := 12) (q0 := 0) C (c_X12_tellsBy l g H.size N σ x3 (σ 34 x5.toNatClampNeg) (σ 31 7) hd8) kw_X12_116 ⟨rfl, rfl⟩ ⟨Nat.le_of_ble_eq_true rfl, Nat.le_of_ble_eq_true rfl⟩ kv_X12_tellsBy rfl rfl rfl hl.1 (Nat.le_of_ble_eq_true rfl) ⟨Nat.zero_le _, Nat.zero_le _⟩ dX12_sortsOf_57 hP hS rfl (fun H locs hP hS => ?_)
          refine lv_aload_n C.1 C.2.1 dX12_sortsOf_60 rfl (lv_at hl 0 rfl) ?_
          refine gf_X12_16_31 C hP dX12_sortsOf_61 ?_
          refine lv_iload C.1 C.2.1 dX12_sortsOf_64 (lv_at hl 5 rfl) ?_
          refine lv_iconst (v := (2 : Int32)) C.1 C.2.1 dX12_sortsOf_66 (by decide) ?_
          refine lv_iadd C.1 C.2.1 dX12_sortsOf_67 ?_
          obtain ⟨hi9, hD⟩ := gi_some hD
          refine iaM C hP 3 rfl hi9 dX12_sortsOf_68 ?_
          refine lv_icmp_ne (tgt := 76) C.1 C.2.1 dX12_sortsOf_69 (by decide) (fun c10 => ?_) (fun c10 => ?_)
          · have hD := b_f c10 hD
            refine lv_iconst (v := (0 : Int32)) C.1 C.2.1 dX12_sortsOf_76 (by decide) ?_
            refine lv_istore (lv' := [(4, .int (0 : Int32)), (0, .ref (g.2.2 31)), (1, .int x1), (2, .int x2), (3, .int x3), (5, .int x5)]) C.1 C.2.1 dX12_sortsOf_77 hl (by decide) rfl (fun ls hl => ?_)
            refine lv_iinc (v := x5 + (3 : Int32)) (lv' := [(5, .int (x5 + (3 : Int32))), (4, .int (0 : Int32)), (0, .ref (g.2.2 31)), (1, .int x1), (2, .int x2), (3, .int x3)]) C.1 C.2.1 dX12_sortsOf_79 hl (k := 5) rfl rfl (by decide) rfl (fun ls hl => ?_)
            refine lv_goto (tgt := 15) C.1 C.2.1 dX12_sortsOf_82 (by decide) ?_
            exact ih (0 : Int32) (x5 + (3 : Int32)) H locs ls (lv_sub hl [2, 3, 4, 5, 1, 0] rfl) hP hS hD
          · have hD := b_t c10 hD
            refine lv_iconst (v := (1 : Int32)) C.1 C.2.1 dX12_sortsOf_72 (by decide) ?_
            refine lv_goto (tgt := 77) C.1 C.2.1 dX12_sortsOf_73 (by decide) ?_
            refine lv_istore (lv' := [(4, .int (1 : Int32)), (0, .ref (g.2.2 31)), (1, .int x1), (2, .int x2), (3, .int x3), (5, .int x5)]) C.1 C.2.1 dX12_sortsOf_77 hl (by decide) rfl (fun ls hl => ?_)
            refine lv_iinc (v := x5 + (3 : Int32)) (lv' := [(5, .int (x5 + (3 : Int32))), (4, .int (1 : Int32)), (0, .ref (g.2.2 31)), (1, .int x1), (2, .int x2), (3, .int x3)]) C.1 C.2.1 dX12_sortsOf_79 hl (k := 5) rfl rfl (by decide) rfl (fun ls hl => ?_)
            refine lv_goto (tgt := 15) C.1 C.2.1 dX12_sortsOf_82 (by decide) ?_
            exact ih (1 : Int32) (x5 + (3 : Int32)) H locs ls (lv_sub hl [2, 3, 4, 5, 1, 0] rfl) hP hS hD
set_option maxHeartbeats 4000000 in
set_option maxRecDepth 100000 in
theorem w_L_X12_sortsOf_4 (C : CM g A p s m args meth c cX12_sortsOf 6 RX12) (hr : meth.sig.returnType = some .int) (N : Nat) (σ : St) {h : Int64} {r : Int32} (x1 : Int32) : ∀ (n : Nat) (x2 : Int32) (x3 : Int32) (H : Heap) (locs : List Loc) (ls : Array Slot), lv_has ls 6 [(0, .ref (g.2.2 31)), (1, .int x1), (2, .int x2), (3, .int x3)] → va_P g.1 vwCl (wM g h σ) H → va_S A s.heap H locs → L_X12_sortsOf_4 N σ x1 n x2 x3 = some r → W p l e rm_X12_sortsOf s m args below meth c H locs 0 0 (MQ below (QiM g h A r σ) args s 0 0 A) (F0 m 4 ls []) := by
  intro n
  induction n with
  | zero =>
    intro x2 x3 H locs ls hl hP hS hD
    rw [L_X12_sortsOf_4] at hD
    cases hD
  | succ n ih =>
    intro x2 x3 H locs ls hl hP hS hD
    rw [L_X12_sortsOf_4] at hD
    refine lv_iload_n C.1 C.2.1 dX12_sortsOf_4 rfl (lv_at hl 3 rfl) ?_
    refine lv_iconst (v := (5 : Int32)) C.1 C.2.1 dX12_sortsOf_5 (by decide) ?_
    refine lv_icmp_ge (tgt := 106) C.1 C.2.1 dX12_sortsOf_6 (by decide) (fun c1 => ?_) (fun c1 => ?_)
    · have hD := b_t c1 hD
      refine lv_iload_n C.1 C.2.1 dX12_sortsOf_106 rfl (lv_at hl 2 rfl) ?_
      cases hD
      exact ri_M C hr hP hS dX12_sortsOf_107
    · have hD := b_f c1 hD
      refine lv_iconst (v := (1 : Int32)) C.1 C.2.1 dX12_sortsOf_9 (by decide) ?_
      refine lv_istore (lv' := [(4, .int (1 : Int32)), (0, .ref (g.2.2 31)), (1, .int x1), (2, .int x2), (3, .int x3)]) C.1 C.2.1 dX12_sortsOf_10 hl (by decide) rfl (fun ls hl => ?_)
      refine lv_iconst (v := (0 : Int32)) C.1 C.2.1 dX12_sortsOf_12 (by decide) ?_
      refine lv_istore (lv' := [(5, .int (0 : Int32)), (4, .int (1 : Int32)), (0, .ref (g.2.2 31)), (1, .int x1), (2, .int x2), (3, .int x3)]) C.1 C.2.1 dX12_sortsOf_13 hl (by decide) rfl (fun ls hl => ?_)
      exact w_L_X12_sortsOf_15 C hr N σ (L_X12_sortsOf_4 N σ x1 n) x1 x2 x3 ih N (1 : Int32) (0 : Int32) H locs ls (lv_sub hl [2, 3, 4, 5, 1, 0] rfl) hP hS hD
set_option maxHeartbeats 4000000 in
set_option maxRecDepth 100000 in
theorem c_X12_sortsOf (l : Launch) (g : Gx) (sz : Nat) (N : Nat) (σ : St) (x1 : Int32) {h : Int64} {r : Int32} (hD : D_X12_sortsOf N σ x1 = some r) : Met l yX12_sortsOf (Cond.code yX12_sortsOf cX12_sortsOf 6 (some .int) :: tb) rm_X12_sortsOf (PcM g h [.ref (g.2.2 31), .int x1] σ sz) (QiM g h (AM g sz) r σ) 0 0 (AM g sz) := by
  refine Met.ofW (cc := cX12_sortsOf) (maxL := 6) (ret := some .int) (by decide) rfl ?_
  intro p e s m args below meth c s₁ B hml hv
  have hv0 := hv
  obtain ⟨rfl, hsz, hP, -⟩ := hv
  subst hsz
  have C : CM g (AM g s.heap.size) p s m _ meth c cX12_sortsOf 6 RX12 := CM.of B hml (fun w h => List.mem_cons_of_mem _ h) rfl hv0
  have hr := B.returns
  have hS : va_S (AM g s.heap.size) s.heap s.heap [] := va_S.rf
  have hl := lv_entry ([.ref (g.2.2 31), .int x1]) (n := 6) (Nat.le_of_ble_eq_true rfl)
  rw [lg_entry_eq]
  generalize (lg_sl ([.ref (g.2.2 31), .int x1]) ++ List.replicate (6 - (lg_sl ([.ref (g.2.2 31), .int x1])).length) Slot.unset).toArray = ls at hl ⊢
  have hl : lv_has ls 6 [(0, .ref (g.2.2 31)), (1, .int x1)] := hl
  obtain ⟨H, hH⟩ : ∃ H, H = s.heap := ⟨_, rfl⟩
  have hP : va_P g.1 vwCl (wM g h σ) H := by rw [hH]; exact hP
  have hS : va_S (AM g s.heap.size) s.heap H [] := by rw [hH]; exact hS
  refine wH hH ?_
  obtain ⟨locs, hlo⟩ : ∃ locs : List Loc, locs = [] := ⟨_, rfl⟩
  rw [← hlo] at hS
  refine wL hlo ?_
  unfold D_X12_sortsOf at hD
  refine lv_iconst (v := (0 : Int32)) C.1 C.2.1 dX12_sortsOf_0 (by decide) ?_
  refine lv_istore_n (lv' := [(2, .int (0 : Int32)), (0, .ref (g.2.2 31)), (1, .int x1)]) C.1 C.2.1 dX12_sortsOf_1 rfl hl (by decide) rfl (fun ls hl => ?_)
  refine lv_iconst (v := (0 : Int32)) C.1 C.2.1 dX12_sortsOf_2 (by decide) ?_
  refine lv_istore_n (lv' := [(3, .int (0 : Int32)), (2, .int (0 : Int32)), (0, .ref (g.2.2 31)), (1, .int x1)]) C.1 C.2.1 dX12_sortsOf_3 rfl hl (by decide) rfl (fun ls hl => ?_)
  exact w_L_X12_sortsOf_4 C hr N σ x1 N (0 : Int32) (0 : Int32) H locs ls (lv_sub hl [2, 3, 1, 0] rfl) hP hS hD
abbrev rm_X12_testOf : Room := { frames := 4, cells := 0, slots := 0, locals := 100 }
set_option maxHeartbeats 4000000 in
set_option maxRecDepth 100000 in
theorem w_J_X12_testOf_145 (C : CM g A p s m args meth c cX12_testOf 10 RX12) (hr : meth.sig.returnType = some .int) (N : Nat) (σ : St) {h : Int64} {r : Int32} (kc15 : Int32 → Int32 → Int32 → Option Int32) (x2 : Int32) (x4 : Int32) (x5 : Int32) (x6 : Int32) (t0 : Int32) (hk15 : ∀ (x3 : Int32) (x4 : Int32) (x5 : Int32) (H : Heap) (locs : List Loc) (ls : Array Slot), lv_has ls 10 [(0, .ref (g.2.2 31)), (2, .int x2), (3, .int x3), (4, .int x4), (5, .int x5)] → va_P g.1 vwCl (wM g h σ) H → va_S A s.heap H locs → kc15 x3 x4 x5 = some r → W p l e rm_X12_testOf s m args below meth c H locs 0 0 (MQ below (QiM g h A r σ) args s 0 0 A) (F0 m 15 ls [])) : ∀  (H : Heap) (locs : List Loc) (ls : Array Slot), lv_has ls 10 [(0, .ref (g.2.2 31)), (2, .int x2), (4, .int x4), (5, .int x5), (6, .int x6)] → va_P g.1 vwCl (wM g h σ) H → va_S A s.heap H locs → J_X12_testOf_145 N σ kc15 x2 x4 x5 x6 t0 = some r → W p l e rm_X12_testOf s m args below meth c H locs 0 0 (MQ below (QiM g h A r σ) args s 0 0 A) (F0 m 145 ls [.int t0]) := by
  intro  H locs ls hl hP hS hD
  unfold J_X12_testOf_145 at hD
  refine lv_istore_n (lv' := [(3, .int t0), (0, .ref (g.2.2 31)), (2, .int x2), (4, .int x4), (5, .int x5), (6, .int x6)]) C.1 C.2.1 dX12_testOf_145 rfl hl (by decide) rfl (fun ls hl => ?_)
  refine lv_iload C.1 C.2.1 dX12_testOf_146 (lv_at hl 5 rfl) ?_
  refine lv_iload C.1 C.2.1 dX12_testOf_148 (lv_at hl 3 rfl) ?_
  refine lv_icmp_ge (tgt := 158) C.1 C.2.1 dX12_testOf_150 (by decide) (fun c6 => ?_) (fun c6 => ?_)
  · have hD := b_t c6 hD
    refine lv_iload C.1 C.2.1 dX12_testOf_158 (lv_at hl 3 rfl) ?_
    refine lv_istore (lv' := [(4, .int x4), (3, .int t0), (0, .ref (g.2.2 31)), (2, .int x2), (5, .int x5), (6, .int x6)]) C.1 C.2.1 dX12_testOf_160 hl (by decide) rfl (fun ls hl => ?_)
    refine lv_iinc (v := x5 + (1 : Int32)) (lv' := [(5, .int (x5 + (1 : Int32))), (4, .int x4), (3, .int t0), (0, .ref (g.2.2 31)), (2, .int x2), (6, .int x6)]) C.1 C.2.1 dX12_testOf_162 hl (k := 4) rfl rfl (by decide) rfl (fun ls hl => ?_)
    refine lv_goto (tgt := 15) C.1 C.2.1 dX12_testOf_165 (by decide) ?_
    exact hk15 t0 x4 (x5 + (1 : Int32)) H locs ls (lv_sub hl [3, 4, 2, 1, 0] rfl) hP hS hD
  · have hD := b_f c6 hD
    refine lv_iload C.1 C.2.1 dX12_testOf_153 (lv_at hl 5 rfl) ?_
    refine lv_goto (tgt := 160) C.1 C.2.1 dX12_testOf_155 (by decide) ?_
    refine lv_istore (lv' := [(4, .int x6), (3, .int t0), (0, .ref (g.2.2 31)), (2, .int x2), (5, .int x5), (6, .int x6)]) C.1 C.2.1 dX12_testOf_160 hl (by decide) rfl (fun ls hl => ?_)
    refine lv_iinc (v := x5 + (1 : Int32)) (lv' := [(5, .int (x5 + (1 : Int32))), (4, .int x6), (3, .int t0), (0, .ref (g.2.2 31)), (2, .int x2), (6, .int x6)]) C.1 C.2.1 dX12_testOf_162 hl (k := 4) rfl rfl (by decide) rfl (fun ls hl => ?_)
    refine lv_goto (tgt := 15) C.1 C.2.1 dX12_testOf_165 (by decide) ?_
    exact hk15 t0 x6 (x5 + (1 : Int32)) H locs ls (lv_sub hl [3, 4, 2, 1, 0] rfl) hP hS hD
set_option maxHeartbeats 4000000 in
set_option maxRecDepth 100000 in
theorem w_L_X12_testOf_46 (C : CM g A p s m args meth c cX12_testOf 10 RX12) (hr : meth.sig.returnType = some .int) (N : Nat) (σ : St) {h : Int64} {r : Int32} (kc15 : Int32 → Int32 → Int32 → Option Int32) (kc34 : Int32 → Int32 → Option Int32) (x2 : Int32) (x3 : Int32) (x4 : Int32) (x5 : Int32) (x6 : Int32) (x7 : Int32) (hk15 : ∀ (x3 : Int32) (x4 : Int32) (x5 : Int32) (H : Heap) (locs : List Loc) (ls : Array Slot), lv_has ls 10 [(0, .ref (g.2.2 31)), (2, .int x2), (3, .int x3), (4, .int x4), (5, .int x5)] → va_P g.1 vwCl (wM g h σ) H → va_S A s.heap H locs → kc15 x3 x4 x5 = some r → W p l e rm_X12_testOf s m args below meth c H locs 0 0 (MQ below (QiM g h A r σ) args s 0 0 A) (F0 m 15 ls [])) (hk34 : ∀ (x6 : Int32) (x7 : Int32) (H : Heap) (locs : List Loc) (ls : Array Slot), lv_has ls 10 [(0, .ref (g.2.2 31)), (2, .int x2), (3, .int x3), (4, .int x4), (5, .int x5), (6, .int x6), (7, .int x7)] → va_P g.1 vwCl (wM g h σ) H → va_S A s.heap H locs → kc34 x6 x7 = some r → W p l e rm_X12_testOf s m args below meth c H locs 0 0 (MQ below (QiM g h A r σ) args s 0 0 A) (F0 m 34 ls [])) : ∀ (n : Nat) (x8 : Int32) (x9 : Int32) (H : Heap) (locs : List Loc) (ls : Array Slot), lv_has ls 10 [(0, .ref (g.2.2 31)), (2, .int x2), (3, .int x3), (4, .int x4), (5, .int x5), (6, .int x6), (7, .int x7), (8, .int x8), (9, .int x9)] → va_P g.1 vwCl (wM g h σ) H → va_S A s.heap H locs → L_X12_testOf_46 N σ kc15 kc34 x2 x3 x4 x5 x6 x7 n x8 x9 = some r → W p l e rm_X12_testOf s m args below meth c H locs 0 0 (MQ below (QiM g h A r σ) args s 0 0 A) (F0 m 46 ls []) := by
  intro n
  induction n with
  | zero =>
    intro x8 x9 H locs ls hl hP hS hD
    rw [L_X12_testOf_46] at hD
    cases hD
  | succ n ih =>
    intro x8 x9 H locs ls hl hP hS hD
    rw [L_X12_testOf_46] at hD
    refine lv_iload C.1 C.2.1 dX12_testOf_46 (lv_at hl 8 rfl) ?_
    refine lv_iconst (v := (5 : Int32)) C.1 C.2.1 dX12_testOf_48 (by decide) ?_
    refine lv_icmp_ge (tgt := 100) C.1 C.2.1 dX12_testOf_49 (by decide) (fun c7 => ?_) (fun c7 => ?_)
    · have hD := b_t c7 hD
      refine lv_iload_n C.1 C.2.1 dX12_testOf_100 rfl (lv_at hl 1 rfl) ?_
      refine lv_iload C.1 C.2.1 dX12_testOf_101 (lv_at hl 6 rfl) ?_
      refine lv_ishr C.1 C.2.1 dX12_testOf_103 ?_
      refine lv_iconst (v := (1 : Int32)) C.1 C.2.1 dX12_testOf_104 (by decide) ?_
      refine lv_iand C.1 C.2.1 dX12_testOf_105 ?_
      refine lv_iconst (v := (1 : Int32)) C.1 C.2.1 dX12_testOf_106 (by decide) ?_
      refine lv_icmp_ne (tgt := 122) C.1 C.2.1 dX12_testOf_107 (by decide) (fun c8 => ?_) (fun c8 => ?_)
      · have hD := b_f c8 hD
        refine lv_iload C.1 C.2.1 dX12_testOf_122 (lv_at hl 5 rfl) ?_
        refine lv_istore (lv' := [(6, .int x6), (0, .ref (g.2.2 31)), (2, .int x2), (3, .int x3), (4, .int x4), (5, .int x5), (7, .int x7), (8, .int x8), (9, .int x9)]) C.1 C.2.1 dX12_testOf_124 hl (by decide) rfl (fun ls hl => ?_)
        refine lv_iinc (v := x7 + (1 : Int32)) (lv' := [(7, .int (x7 + (1 : Int32))), (6, .int x6), (0, .ref (g.2.2 31)), (2, .int x2), (3, .int x3), (4, .int x4), (5, .int x5), (8, .int x8), (9, .int x9)]) C.1 C.2.1 dX12_testOf_126 hl (k := 6) rfl rfl (by decide) rfl (fun ls hl => ?_)
        refine lv_goto (tgt := 34) C.1 C.2.1 dX12_testOf_129 (by decide) ?_
        exact hk34 x6 (x7 + (1 : Int32)) H locs ls (lv_sub hl [2, 3, 4, 5, 6, 1, 0] rfl) hP hS hD
      · have hD := b_t c8 hD
        refine lv_iload C.1 C.2.1 dX12_testOf_110 (lv_at hl 7 rfl) ?_
        refine lv_iload C.1 C.2.1 dX12_testOf_112 (lv_at hl 5 rfl) ?_
        refine lv_icmp_le (tgt := 122) C.1 C.2.1 dX12_testOf_114 (by decide) (fun c9 => ?_) (fun c9 => ?_)
        · have hD := b_t c9 hD
          refine lv_iload C.1 C.2.1 dX12_testOf_122 (lv_at hl 5 rfl) ?_
          refine lv_istore (lv' := [(6, .int x6), (0, .ref (g.2.2 31)), (2, .int x2), (3, .int x3), (4, .int x4), (5, .int x5), (7, .int x7), (8, .int x8), (9, .int x9)]) C.1 C.2.1 dX12_testOf_124 hl (by decide) rfl (fun ls hl => ?_)
          refine lv_iinc (v := x7 + (1 : Int32)) (lv' := [(7, .int (x7 + (1 : Int32))), (6, .int x6), (0, .ref (g.2.2 31)), (2, .int x2), (3, .int x3), (4, .int x4), (5, .int x5), (8, .int x8), (9, .int x9)]) C.1 C.2.1 dX12_testOf_126 hl (k := 6) rfl rfl (by decide) rfl (fun ls hl => ?_)
          refine lv_goto (tgt := 34) C.1 C.2.1 dX12_testOf_129 (by decide) ?_
          exact hk34 x6 (x7 + (1 : Int32)) H locs ls (lv_sub hl [2, 3, 4, 5, 6, 1, 0] rfl) hP hS hD
        · have hD := b_f c9 hD
          refine lv_iload C.1 C.2.1 dX12_testOf_117 (lv_at hl 7 rfl) ?_
          refine lv_goto (tgt := 124) C.1 C.2.1 dX12_testOf_119 (by decide) ?_
          refine lv_istore (lv' := [(6, .int x8), (0, .ref (g.2.2 31)), (2, .int x2), (3, .int x3), (4, .int x4), (5, .int x5), (7, .int x7), (8, .int x8), (9, .int x9)]) C.1 C.2.1 dX12_testOf_124 hl (by decide) rfl (fun ls hl => ?_)
          refine lv_iinc (v := x7 + (1 : Int32)) (lv' := [(7, .int (x7 + (1 : Int32))), (6, .int x8), (0, .ref (g.2.2 31)), (2, .int x2), (3, .int x3), (4, .int x4), (5, .int x5), (8, .int x8), (9, .int x9)]) C.1 C.2.1 dX12_testOf_126 hl (k := 6) rfl rfl (by decide) rfl (fun ls hl => ?_)
          refine lv_goto (tgt := 34) C.1 C.2.1 dX12_testOf_129 (by decide) ?_
          exact hk34 x8 (x7 + (1 : Int32)) H locs ls (lv_sub hl [2, 3, 4, 5, 6, 1, 0] rfl) hP hS hD
    · have hD := b_f c7 hD
      refine lv_iload C.1 C.2.1 dX12_testOf_52 (lv_at hl 7 rfl) ?_
      refine lv_aload_n C.1 C.2.1 dX12_testOf_54 rfl (lv_at hl 0 rfl) ?_
      refine lv_iload C.1 C.2.1 dX12_testOf_55 (lv_at hl 8 rfl) ?_
      refine lv_iload C.1 C.2.1 dX12_testOf_57 (lv_at hl 4 rfl) ?_
      refine lv_aload_n C.1 C.2.1 dX12_testOf_59 rfl (lv_at hl 0 rfl) ?_
      refine gf_X12_41_31 C hP dX12_testOf_60 ?_
      obtain ⟨r10, hd10, hD⟩ := bp_some hD
      refine kVi_M (As := [.int x9, .int x5, .int (σ 31 7)]) (rest := [.int x8]) (ci := 12) (q0 := 0) C (c_X12_tellsBy l g H.size N σ x9 x5 (σ 31 7) hd10) kw_X12_116 ⟨rfl, rfl⟩ ⟨Nat.le_of_ble_eq_true rfl, Nat.le_of_ble_eq_true rfl⟩ kv_X12_tellsBy rfl rfl rfl hl.1 (Nat.le_of_ble_eq_true rfl) ⟨Nat.zero_le _, Nat.zero_le _⟩ dX12_testOf_63 hP hS rfl (fun H locs hP hS => ?_)
      refine lv_aload_n C.1 C.2.1 dX12_testOf_66 rfl (lv_at hl 0 rfl) ?_
      refine lv_iload C.1 C.2.1 dX12_testOf_67 (lv_at hl 6 rfl) ?_
      refine lv_iload C.1 C.2.1 dX12_testOf_69 (lv_at hl 4 rfl) ?_
      refine lv_aload_n C.1 C.2.1 dX12_testOf_71 rfl (lv_at hl 0 rfl) ?_
      refine gf_X12_41_31 C hP dX12_testOf_72 ?_
      obtain ⟨r11, hd11, hD⟩ := bp_some hD
      refine kVi_M (As := [.int x7, .int x5, .int (σ 31 7)]) (rest := [.int r10, .int x8]) (ci := 12) (q0 := 0) C (c_X12_tellsBy l g H.size N σ x7 x5 (σ 31 7) hd11) kw_X12_116 ⟨rfl, rfl⟩ ⟨Nat.le_of_ble_eq_true rfl, Nat.le_of_ble_eq_true rfl⟩ kv_X12_tellsBy rfl rfl rfl hl.1 (Nat.le_of_ble_eq_true rfl) ⟨Nat.zero_le _, Nat.zero_le _⟩ dX12_testOf_75 hP hS rfl (fun H locs hP hS => ?_)
      refine lv_icmp_ne (tgt := 90) C.1 C.2.1 dX12_testOf_78 (by decide) (fun c12 => ?_) (fun c12 => ?_)
      · have hD := b_f c12 hD
        refine lv_iconst (v := (0 : Int32)) C.1 C.2.1 dX12_testOf_90 (by decide) ?_
        refine lv_iadd C.1 C.2.1 dX12_testOf_91 ?_
        refine lv_istore (lv' := [(8, .int (x8 + (0 : Int32))), (0, .ref (g.2.2 31)), (2, .int x2), (3, .int x3), (4, .int x4), (5, .int x5), (6, .int x6), (7, .int x7), (9, .int x9)]) C.1 C.2.1 dX12_testOf_92 hl (by decide) rfl (fun ls hl => ?_)
        refine lv_iinc (v := x9 + (1 : Int32)) (lv' := [(9, .int (x9 + (1 : Int32))), (8, .int (x8 + (0 : Int32))), (0, .ref (g.2.2 31)), (2, .int x2), (3, .int x3), (4, .int x4), (5, .int x5), (6, .int x6), (7, .int x7)]) C.1 C.2.1 dX12_testOf_94 hl (k := 8) rfl rfl (by decide) rfl (fun ls hl => ?_)
        refine lv_goto (tgt := 46) C.1 C.2.1 dX12_testOf_97 (by decide) ?_
        exact ih (x8 + (0 : Int32)) (x9 + (1 : Int32)) H locs ls (lv_sub hl [2, 3, 4, 5, 6, 7, 8, 1, 0] rfl) hP hS hD
      · have hD := b_t c12 hD
        refine lv_iload_n C.1 C.2.1 dX12_testOf_81 rfl (lv_at hl 1 rfl) ?_
        refine lv_iload C.1 C.2.1 dX12_testOf_82 (lv_at hl 8 rfl) ?_
        refine lv_ishr C.1 C.2.1 dX12_testOf_84 ?_
        refine lv_iconst (v := (1 : Int32)) C.1 C.2.1 dX12_testOf_85 (by decide) ?_
        refine lv_iand C.1 C.2.1 dX12_testOf_86 ?_
        refine lv_goto (tgt := 91) C.1 C.2.1 dX12_testOf_87 (by decide) ?_
        refine lv_iadd C.1 C.2.1 dX12_testOf_91 ?_
        refine lv_istore (lv' := [(8, .int (x8 + ((x2 >>> (x9 &&& 31)) &&& (1 : Int32)))), (0, .ref (g.2.2 31)), (2, .int x2), (3, .int x3), (4, .int x4), (5, .int x5), (6, .int x6), (7, .int x7), (9, .int x9)]) C.1 C.2.1 dX12_testOf_92 hl (by decide) rfl (fun ls hl => ?_)
        refine lv_iinc (v := x9 + (1 : Int32)) (lv' := [(9, .int (x9 + (1 : Int32))), (8, .int (x8 + ((x2 >>> (x9 &&& 31)) &&& (1 : Int32)))), (0, .ref (g.2.2 31)), (2, .int x2), (3, .int x3), (4, .int x4), (5, .int x5), (6, .int x6), (7, .int x7)]) C.1 C.2.1 dX12_testOf_94 hl (k := 8) rfl rfl (by decide) rfl (fun ls hl => ?_)
        refine lv_goto (tgt := 46) C.1 C.2.1 dX12_testOf_97 (by decide) ?_
        exact ih (x8 + ((x2 >>> (x9 &&& 31)) &&& (1 : Int32))) (x9 + (1 : Int32)) H locs ls (lv_sub hl [2, 3, 4, 5, 6, 7, 8, 1, 0] rfl) hP hS hD
set_option maxHeartbeats 4000000 in
set_option maxRecDepth 100000 in
theorem w_L_X12_testOf_34 (C : CM g A p s m args meth c cX12_testOf 10 RX12) (hr : meth.sig.returnType = some .int) (N : Nat) (σ : St) {h : Int64} {r : Int32} (kc15 : Int32 → Int32 → Int32 → Option Int32) (x2 : Int32) (x3 : Int32) (x4 : Int32) (x5 : Int32) (hk15 : ∀ (x3 : Int32) (x4 : Int32) (x5 : Int32) (H : Heap) (locs : List Loc) (ls : Array Slot), lv_has ls 10 [(0, .ref (g.2.2 31)), (2, .int x2), (3, .int x3), (4, .int x4), (5, .int x5)] → va_P g.1 vwCl (wM g h σ) H → va_S A s.heap H locs → kc15 x3 x4 x5 = some r → W p l e rm_X12_testOf s m args below meth c H locs 0 0 (MQ below (QiM g h A r σ) args s 0 0 A) (F0 m 15 ls [])) : ∀ (n : Nat) (x6 : Int32) (x7 : Int32) (H : Heap) (locs : List Loc) (ls : Array Slot), lv_has ls 10 [(0, .ref (g.2.2 31)), (2, .int x2), (3, .int x3), (4, .int x4), (5, .int x5), (6, .int x6), (7, .int x7)] → va_P g.1 vwCl (wM g h σ) H → va_S A s.heap H locs → L_X12_testOf_34 N σ kc15 x2 x3 x4 x5 n x6 x7 = some r → W p l e rm_X12_testOf s m args below meth c H locs 0 0 (MQ below (QiM g h A r σ) args s 0 0 A) (F0 m 34 ls []) := by
  intro n
  induction n with
  | zero =>
    intro x6 x7 H locs ls hl hP hS hD
    rw [L_X12_testOf_34] at hD
    cases hD
  | succ n ih =>
    intro x6 x7 H locs ls hl hP hS hD
    rw [L_X12_testOf_34] at hD
    refine lv_iload C.1 C.2.1 dX12_testOf_34 (lv_at hl 6 rfl) ?_
    refine lv_iconst (v := (5 : Int32)) C.1 C.2.1 dX12_testOf_36 (by decide) ?_
    refine lv_icmp_ge (tgt := 132) C.1 C.2.1 dX12_testOf_37 (by decide) (fun c4 => ?_) (fun c4 => ?_)
    · have hD := b_t c4 hD
      refine lv_iload C.1 C.2.1 dX12_testOf_132 (lv_at hl 5 rfl) ?_
      refine lv_iload C.1 C.2.1 dX12_testOf_134 (lv_at hl 3 rfl) ?_
      refine lv_icmp_ge (tgt := 144) C.1 C.2.1 dX12_testOf_136 (by decide) (fun c5 => ?_) (fun c5 => ?_)
      · have hD := b_t c5 hD
        refine lv_iload_n C.1 C.2.1 dX12_testOf_144 rfl (lv_at hl 2 rfl) ?_
        exact w_J_X12_testOf_145 C hr N σ kc15 x2 x4 x5 x6 x3 hk15 H locs ls (lv_sub hl [0, 1, 3, 4, 5] rfl) hP hS hD
      · have hD := b_f c5 hD
        refine lv_iload C.1 C.2.1 dX12_testOf_139 (lv_at hl 4 rfl) ?_
        refine lv_goto (tgt := 145) C.1 C.2.1 dX12_testOf_141 (by decide) ?_
        exact w_J_X12_testOf_145 C hr N σ kc15 x2 x4 x5 x6 x5 hk15 H locs ls (lv_sub hl [0, 1, 3, 4, 5] rfl) hP hS hD
    · have hD := b_f c4 hD
      refine lv_iconst (v := (0 : Int32)) C.1 C.2.1 dX12_testOf_40 (by decide) ?_
      refine lv_istore (lv' := [(8, .int (0 : Int32)), (0, .ref (g.2.2 31)), (2, .int x2), (3, .int x3), (4, .int x4), (5, .int x5), (6, .int x6), (7, .int x7)]) C.1 C.2.1 dX12_testOf_41 hl (by decide) rfl (fun ls hl => ?_)
      refine lv_iconst (v := (0 : Int32)) C.1 C.2.1 dX12_testOf_43 (by decide) ?_
      refine lv_istore (lv' := [(9, .int (0 : Int32)), (8, .int (0 : Int32)), (0, .ref (g.2.2 31)), (2, .int x2), (3, .int x3), (4, .int x4), (5, .int x5), (6, .int x6), (7, .int x7)]) C.1 C.2.1 dX12_testOf_44 hl (by decide) rfl (fun ls hl => ?_)
      exact w_L_X12_testOf_46 C hr N σ kc15 (L_X12_testOf_34 N σ kc15 x2 x3 x4 x5 n) x2 x3 x4 x5 x6 x7 hk15 ih N (0 : Int32) (0 : Int32) H locs ls (lv_sub hl [2, 3, 4, 5, 6, 7, 8, 1, 0] rfl) hP hS hD
set_option maxHeartbeats 4000000 in
set_option maxRecDepth 100000 in
theorem w_L_X12_testOf_15 (C : CM g A p s m args meth c cX12_testOf 10 RX12) (hr : meth.sig.returnType = some .int) (N : Nat) (σ : St) {h : Int64} {r : Int32} (x2 : Int32) : ∀ (n : Nat) (x3 : Int32) (x4 : Int32) (x5 : Int32) (H : Heap) (locs : List Loc) (ls : Array Slot), lv_has ls 10 [(0, .ref (g.2.2 31)), (2, .int x2), (3, .int x3), (4, .int x4), (5, .int x5)] → va_P g.1 vwCl (wM g h σ) H → va_S A s.heap H locs → L_X12_testOf_15 N σ x2 n x3 x4 x5 = some r → W p l e rm_X12_testOf s m args below meth c H locs 0 0 (MQ below (QiM g h A r σ) args s 0 0 A) (F0 m 15 ls []) := by
  intro n
  induction n with
  | zero =>
    intro x3 x4 x5 H locs ls hl hP hS hD
    rw [L_X12_testOf_15] at hD
    cases hD
  | succ n ih =>
    intro x3 x4 x5 H locs ls hl hP hS hD
    rw [L_X12_testOf_15] at hD
    refine lv_iload C.1 C.2.1 dX12_testOf_15 (lv_at hl 4 rfl) ?_
    refine lv_aload_n C.1 C.2.1 dX12_testOf_17 rfl (lv_at hl 0 rfl) ?_
    refine gf_X12_90_31 C hP dX12_testOf_18 ?_
    refine lv_icmp_ge (tgt := 168) C.1 C.2.1 dX12_testOf_21 (by decide) (fun c2 => ?_) (fun c2 => ?_)
    · have hD := b_t c2 hD
      refine lv_iload_n C.1 C.2.1 dX12_testOf_168 rfl (lv_at hl 2 rfl) ?_
      cases hD
      exact ri_M C hr hP hS dX12_testOf_169
    · have hD := b_f c2 hD
      refine lv_iload_n C.1 C.2.1 dX12_testOf_24 rfl (lv_at hl 1 rfl) ?_
      refine lv_if_eq (tgt := 168) C.1 C.2.1 dX12_testOf_25 (by decide) (fun c3 => ?_) (fun c3 => ?_)
      · have hD := b_t c3 hD
        refine lv_iload_n C.1 C.2.1 dX12_testOf_168 rfl (lv_at hl 2 rfl) ?_
        cases hD
        exact ri_M C hr hP hS dX12_testOf_169
      · have hD := b_f c3 hD
        refine lv_iconst (v := (0 : Int32)) C.1 C.2.1 dX12_testOf_28 (by decide) ?_
        refine lv_istore (lv' := [(6, .int (0 : Int32)), (0, .ref (g.2.2 31)), (2, .int x2), (3, .int x3), (4, .int x4), (5, .int x5)]) C.1 C.2.1 dX12_testOf_29 hl (by decide) rfl (fun ls hl => ?_)
        refine lv_iconst (v := (0 : Int32)) C.1 C.2.1 dX12_testOf_31 (by decide) ?_
        refine lv_istore (lv' := [(7, .int (0 : Int32)), (6, .int (0 : Int32)), (0, .ref (g.2.2 31)), (2, .int x2), (3, .int x3), (4, .int x4), (5, .int x5)]) C.1 C.2.1 dX12_testOf_32 hl (by decide) rfl (fun ls hl => ?_)
        exact w_L_X12_testOf_34 C hr N σ (L_X12_testOf_15 N σ x2 n) x2 x3 x4 x5 ih N (0 : Int32) (0 : Int32) H locs ls (lv_sub hl [2, 3, 4, 5, 6, 1, 0] rfl) hP hS hD
set_option maxHeartbeats 4000000 in
set_option maxRecDepth 100000 in
theorem c_X12_testOf (l : Launch) (g : Gx) (sz : Nat) (N : Nat) (σ : St) (x1 : Int32) {h : Int64} {r : Int32} (hD : D_X12_testOf N σ x1 = some r) : Met l yX12_testOf (Cond.code yX12_testOf cX12_testOf 10 (some .int) :: tb) rm_X12_testOf (PcM g h [.ref (g.2.2 31), .int x1] σ sz) (QiM g h (AM g sz) r σ) 0 0 (AM g sz) := by
  refine Met.ofW (cc := cX12_testOf) (maxL := 10) (ret := some .int) (by decide) rfl ?_
  intro p e s m args below meth c s₁ B hml hv
  have hv0 := hv
  obtain ⟨rfl, hsz, hP, -⟩ := hv
  subst hsz
  have C : CM g (AM g s.heap.size) p s m _ meth c cX12_testOf 10 RX12 := CM.of B hml (fun w h => List.mem_cons_of_mem _ h) rfl hv0
  have hr := B.returns
  have hS : va_S (AM g s.heap.size) s.heap s.heap [] := va_S.rf
  have hl := lv_entry ([.ref (g.2.2 31), .int x1]) (n := 10) (Nat.le_of_ble_eq_true rfl)
  rw [lg_entry_eq]
  generalize (lg_sl ([.ref (g.2.2 31), .int x1]) ++ List.replicate (10 - (lg_sl ([.ref (g.2.2 31), .int x1])).length) Slot.unset).toArray = ls at hl ⊢
  have hl : lv_has ls 10 [(0, .ref (g.2.2 31)), (1, .int x1)] := hl
  obtain ⟨H, hH⟩ : ∃ H, H = s.heap := ⟨_, rfl⟩
  have hP : va_P g.1 vwCl (wM g h σ) H := by rw [hH]; exact hP
  have hS : va_S (AM g s.heap.size) s.heap H [] := by rw [hH]; exact hS
  refine wH hH ?_
  obtain ⟨locs, hlo⟩ : ∃ locs : List Loc, locs = [] := ⟨_, rfl⟩
  rw [← hlo] at hS
  refine wL hlo ?_
  unfold D_X12_testOf at hD
  refine lv_aload_n C.1 C.2.1 dX12_testOf_0 rfl (lv_at hl 0 rfl) ?_
  refine lv_iload_n C.1 C.2.1 dX12_testOf_1 rfl (lv_at hl 1 rfl) ?_
  obtain ⟨r1, hd1, hD⟩ := bp_some hD
  refine kVi_M (As := [.int x1]) (rest := []) (ci := 12) (q0 := 0) C (c_X12_sortsOf l g H.size N σ x1 hd1) kw_X12_142 ⟨rfl, rfl⟩ ⟨Nat.le_of_ble_eq_true rfl, Nat.le_of_ble_eq_true rfl⟩ kv_X12_sortsOf rfl rfl rfl hl.1 (Nat.le_of_ble_eq_true rfl) ⟨Nat.zero_le _, Nat.zero_le _⟩ dX12_testOf_2 hP hS rfl (fun H locs hP hS => ?_)
  refine lv_istore_n (lv' := [(2, .int r1), (0, .ref (g.2.2 31)), (1, .int x1)]) C.1 C.2.1 dX12_testOf_5 rfl hl (by decide) rfl (fun ls hl => ?_)
  refine lv_iconst (v := (-1 : Int32)) C.1 C.2.1 dX12_testOf_6 (by decide) ?_
  refine lv_istore_n (lv' := [(3, .int (-1 : Int32)), (2, .int r1), (0, .ref (g.2.2 31)), (1, .int x1)]) C.1 C.2.1 dX12_testOf_7 rfl hl (by decide) rfl (fun ls hl => ?_)
  refine lv_bipush (v := (6 : Int32)) C.1 C.2.1 dX12_testOf_8 (by decide) ?_
  refine lv_istore (lv' := [(4, .int (6 : Int32)), (3, .int (-1 : Int32)), (2, .int r1), (0, .ref (g.2.2 31)), (1, .int x1)]) C.1 C.2.1 dX12_testOf_10 hl (by decide) rfl (fun ls hl => ?_)
  refine lv_iconst (v := (0 : Int32)) C.1 C.2.1 dX12_testOf_12 (by decide) ?_
  refine lv_istore (lv' := [(5, .int (0 : Int32)), (4, .int (6 : Int32)), (3, .int (-1 : Int32)), (2, .int r1), (0, .ref (g.2.2 31)), (1, .int x1)]) C.1 C.2.1 dX12_testOf_13 hl (by decide) rfl (fun ls hl => ?_)
  exact w_L_X12_testOf_15 C hr N σ r1 N (-1 : Int32) (6 : Int32) (0 : Int32) H locs ls (lv_sub hl [4, 3, 2, 1, 0] rfl) hP hS hD
abbrev rm_X12_toJudge : Room := { frames := 0, cells := 0, slots := 0, locals := 0 }
set_option maxHeartbeats 4000000 in
set_option maxRecDepth 100000 in
theorem w_L_X12_toJudge_4 (C : CM g A p s m args meth c cX12_toJudge 4 RX12) (hr : meth.sig.returnType = some .int) (N : Nat) (σ : St) {h : Int64} {r : Int32} (x1 : Int32) : ∀ (n : Nat) (x2 : Int32) (x3 : Int32) (H : Heap) (locs : List Loc) (ls : Array Slot), lv_has ls 4 [(0, .ref (g.2.2 31)), (1, .int x1), (2, .int x2), (3, .int x3)] → va_P g.1 vwCl (wM g h σ) H → va_S A s.heap H locs → L_X12_toJudge_4 N σ x1 n x2 x3 = some r → W p l e rm_X12_toJudge s m args below meth c H locs 0 0 (MQ below (QiM g h A r σ) args s 0 0 A) (F0 m 4 ls []) := by
  intro n
  induction n with
  | zero =>
    intro x2 x3 H locs ls hl hP hS hD
    rw [L_X12_toJudge_4] at hD
    cases hD
  | succ n ih =>
    intro x2 x3 H locs ls hl hP hS hD
    rw [L_X12_toJudge_4] at hD
    refine lv_iload_n C.1 C.2.1 dX12_toJudge_4 rfl (lv_at hl 3 rfl) ?_
    refine lv_aload_n C.1 C.2.1 dX12_toJudge_5 rfl (lv_at hl 0 rfl) ?_
    refine gf_X12_93_31 C hP dX12_toJudge_6 ?_
    refine lv_icmp_ge (tgt := 40) C.1 C.2.1 dX12_toJudge_9 (by decide) (fun c1 => ?_) (fun c1 => ?_)
    · have hD := b_t c1 hD
      refine lv_iload_n C.1 C.2.1 dX12_toJudge_40 rfl (lv_at hl 2 rfl) ?_
      cases hD
      exact ri_M C hr hP hS dX12_toJudge_41
    · have hD := b_f c1 hD
      refine lv_iload_n C.1 C.2.1 dX12_toJudge_12 rfl (lv_at hl 2 rfl) ?_
      refine lv_aload_n C.1 C.2.1 dX12_toJudge_13 rfl (lv_at hl 0 rfl) ?_
      refine gf_X12_16_31 C hP dX12_toJudge_14 ?_
      refine lv_iconst (v := (3 : Int32)) C.1 C.2.1 dX12_toJudge_17 (by decide) ?_
      refine lv_iload_n C.1 C.2.1 dX12_toJudge_18 rfl (lv_at hl 3 rfl) ?_
      refine lv_imul C.1 C.2.1 dX12_toJudge_19 ?_
      refine lv_iconst (v := (1 : Int32)) C.1 C.2.1 dX12_toJudge_20 (by decide) ?_
      refine lv_iadd C.1 C.2.1 dX12_toJudge_21 ?_
      obtain ⟨hi2, hD⟩ := gi_some hD
      refine iaM C hP 3 rfl hi2 dX12_toJudge_22 ?_
      refine lv_iload_n C.1 C.2.1 dX12_toJudge_23 rfl (lv_at hl 1 rfl) ?_
      refine lv_icmp_ne (tgt := 31) C.1 C.2.1 dX12_toJudge_24 (by decide) (fun c3 => ?_) (fun c3 => ?_)
      · have hD := b_f c3 hD
        refine lv_iconst (v := (0 : Int32)) C.1 C.2.1 dX12_toJudge_31 (by decide) ?_
        refine lv_iadd C.1 C.2.1 dX12_toJudge_32 ?_
        refine lv_istore_n (lv' := [(2, .int (x2 + (0 : Int32))), (0, .ref (g.2.2 31)), (1, .int x1), (3, .int x3)]) C.1 C.2.1 dX12_toJudge_33 rfl hl (by decide) rfl (fun ls hl => ?_)
        refine lv_iinc (v := x3 + (1 : Int32)) (lv' := [(3, .int (x3 + (1 : Int32))), (2, .int (x2 + (0 : Int32))), (0, .ref (g.2.2 31)), (1, .int x1)]) C.1 C.2.1 dX12_toJudge_34 hl (k := 3) rfl rfl (by decide) rfl (fun ls hl => ?_)
        refine lv_goto (tgt := 4) C.1 C.2.1 dX12_toJudge_37 (by decide) ?_
        exact ih (x2 + (0 : Int32)) (x3 + (1 : Int32)) H locs ls (lv_sub hl [2, 3, 1, 0] rfl) hP hS hD
      · have hD := b_t c3 hD
        refine lv_iconst (v := (1 : Int32)) C.1 C.2.1 dX12_toJudge_27 (by decide) ?_
        refine lv_goto (tgt := 32) C.1 C.2.1 dX12_toJudge_28 (by decide) ?_
        refine lv_iadd C.1 C.2.1 dX12_toJudge_32 ?_
        refine lv_istore_n (lv' := [(2, .int (x2 + (1 : Int32))), (0, .ref (g.2.2 31)), (1, .int x1), (3, .int x3)]) C.1 C.2.1 dX12_toJudge_33 rfl hl (by decide) rfl (fun ls hl => ?_)
        refine lv_iinc (v := x3 + (1 : Int32)) (lv' := [(3, .int (x3 + (1 : Int32))), (2, .int (x2 + (1 : Int32))), (0, .ref (g.2.2 31)), (1, .int x1)]) C.1 C.2.1 dX12_toJudge_34 hl (k := 3) rfl rfl (by decide) rfl (fun ls hl => ?_)
        refine lv_goto (tgt := 4) C.1 C.2.1 dX12_toJudge_37 (by decide) ?_
        exact ih (x2 + (1 : Int32)) (x3 + (1 : Int32)) H locs ls (lv_sub hl [2, 3, 1, 0] rfl) hP hS hD
set_option maxHeartbeats 4000000 in
set_option maxRecDepth 100000 in
theorem c_X12_toJudge (l : Launch) (g : Gx) (sz : Nat) (N : Nat) (σ : St) (x1 : Int32) {h : Int64} {r : Int32} (hD : D_X12_toJudge N σ x1 = some r) : Met l yX12_toJudge (Cond.code yX12_toJudge cX12_toJudge 4 (some .int) :: tb) rm_X12_toJudge (PcM g h [.ref (g.2.2 31), .int x1] σ sz) (QiM g h (AM g sz) r σ) 0 0 (AM g sz) := by
  refine Met.ofW (cc := cX12_toJudge) (maxL := 4) (ret := some .int) (by decide) rfl ?_
  intro p e s m args below meth c s₁ B hml hv
  have hv0 := hv
  obtain ⟨rfl, hsz, hP, -⟩ := hv
  subst hsz
  have C : CM g (AM g s.heap.size) p s m _ meth c cX12_toJudge 4 RX12 := CM.of B hml (fun w h => List.mem_cons_of_mem _ h) rfl hv0
  have hr := B.returns
  have hS : va_S (AM g s.heap.size) s.heap s.heap [] := va_S.rf
  have hl := lv_entry ([.ref (g.2.2 31), .int x1]) (n := 4) (Nat.le_of_ble_eq_true rfl)
  rw [lg_entry_eq]
  generalize (lg_sl ([.ref (g.2.2 31), .int x1]) ++ List.replicate (4 - (lg_sl ([.ref (g.2.2 31), .int x1])).length) Slot.unset).toArray = ls at hl ⊢
  have hl : lv_has ls 4 [(0, .ref (g.2.2 31)), (1, .int x1)] := hl
  obtain ⟨H, hH⟩ : ∃ H, H = s.heap := ⟨_, rfl⟩
  have hP : va_P g.1 vwCl (wM g h σ) H := by rw [hH]; exact hP
  have hS : va_S (AM g s.heap.size) s.heap H [] := by rw [hH]; exact hS
  refine wH hH ?_
  obtain ⟨locs, hlo⟩ : ∃ locs : List Loc, locs = [] := ⟨_, rfl⟩
  rw [← hlo] at hS
  refine wL hlo ?_
  unfold D_X12_toJudge at hD
  refine lv_iconst (v := (0 : Int32)) C.1 C.2.1 dX12_toJudge_0 (by decide) ?_
  refine lv_istore_n (lv' := [(2, .int (0 : Int32)), (0, .ref (g.2.2 31)), (1, .int x1)]) C.1 C.2.1 dX12_toJudge_1 rfl hl (by decide) rfl (fun ls hl => ?_)
  refine lv_iconst (v := (0 : Int32)) C.1 C.2.1 dX12_toJudge_2 (by decide) ?_
  refine lv_istore_n (lv' := [(3, .int (0 : Int32)), (2, .int (0 : Int32)), (0, .ref (g.2.2 31)), (1, .int x1)]) C.1 C.2.1 dX12_toJudge_3 rfl hl (by decide) rfl (fun ls hl => ?_)
  exact w_L_X12_toJudge_4 C hr N σ x1 N (0 : Int32) (0 : Int32) H locs ls (lv_sub hl [2, 3, 1, 0] rfl) hP hS hD
abbrev rm_X12_tellJudge : Room := { frames := 5, cells := 0, slots := 0, locals := 129 }
set_option maxHeartbeats 4000000 in
set_option maxRecDepth 100000 in
theorem c_X12_tellJudge (l : Launch) (g : Gx) (sz : Nat) (N : Nat) (σ : St) (x1 : Int32) (x2 : Int32) {h : Int64} {r : Int32} (hD : D_X12_tellJudge N σ x1 x2 = some r) : Met l yX12_tellJudge (Cond.code yX12_tellJudge cX12_tellJudge 3 (some .int) :: tb) rm_X12_tellJudge (PcM g h [.ref (g.2.2 31), .int x1, .int x2] σ sz) (QiM g h (AM g sz) r σ) 0 0 (AM g sz) := by
  refine Met.ofW (cc := cX12_tellJudge) (maxL := 3) (ret := some .int) (by decide) rfl ?_
  intro p e s m args below meth c s₁ B hml hv
  have hv0 := hv
  obtain ⟨rfl, hsz, hP, -⟩ := hv
  subst hsz
  have C : CM g (AM g s.heap.size) p s m _ meth c cX12_tellJudge 3 RX12 := CM.of B hml (fun w h => List.mem_cons_of_mem _ h) rfl hv0
  have hr := B.returns
  have hS : va_S (AM g s.heap.size) s.heap s.heap [] := va_S.rf
  have hl := lv_entry ([.ref (g.2.2 31), .int x1, .int x2]) (n := 3) (Nat.le_of_ble_eq_true rfl)
  rw [lg_entry_eq]
  generalize (lg_sl ([.ref (g.2.2 31), .int x1, .int x2]) ++ List.replicate (3 - (lg_sl ([.ref (g.2.2 31), .int x1, .int x2])).length) Slot.unset).toArray = ls at hl ⊢
  have hl : lv_has ls 3 [(0, .ref (g.2.2 31)), (1, .int x1), (2, .int x2)] := hl
  obtain ⟨H, hH⟩ : ∃ H, H = s.heap := ⟨_, rfl⟩
  have hP : va_P g.1 vwCl (wM g h σ) H := by rw [hH]; exact hP
  have hS : va_S (AM g s.heap.size) s.heap H [] := by rw [hH]; exact hS
  refine wH hH ?_
  obtain ⟨locs, hlo⟩ : ∃ locs : List Loc, locs = [] := ⟨_, rfl⟩
  rw [← hlo] at hS
  refine wL hlo ?_
  unfold D_X12_tellJudge at hD
  refine lv_iload_n C.1 C.2.1 dX12_tellJudge_0 rfl (lv_at hl 2 rfl) ?_
  by_cases c1 : x2 = (0 : Int32)
  · have hD := b_t c1 hD
    refine lv_tableIn (off := 35) (tgt := 36) C.1 C.2.1 dX12_tellJudge_1 (by rw [c1]; decide) (by rw [c1]; decide) (by rw [c1]; rfl) (by decide) ?_
    refine lv_aload_n C.1 C.2.1 dX12_tellJudge_36 rfl (lv_at hl 0 rfl) ?_
    refine gf_X12_13_31 C hP dX12_tellJudge_37 ?_
    refine lv_iload_n C.1 C.2.1 dX12_tellJudge_40 rfl (lv_at hl 1 rfl) ?_
    obtain ⟨hi2, hD⟩ := gi_some hD
    refine iaM C hP 2 rfl hi2 dX12_tellJudge_41 ?_
    cases hD
    exact ri_M C hr hP hS dX12_tellJudge_42
  · have hD := b_f c1 hD
    by_cases c3 : x2 = (1 : Int32)
    · have hD := b_t c3 hD
      refine lv_tableIn (off := 42) (tgt := 43) C.1 C.2.1 dX12_tellJudge_1 (by rw [c3]; decide) (by rw [c3]; decide) (by rw [c3]; rfl) (by decide) ?_
      refine lv_aload_n C.1 C.2.1 dX12_tellJudge_43 rfl (lv_at hl 0 rfl) ?_
      refine lv_iload_n C.1 C.2.1 dX12_tellJudge_44 rfl (lv_at hl 1 rfl) ?_
      obtain ⟨r4, hd4, hD⟩ := bp_some hD
      refine kVi_M (As := [.int x1]) (rest := []) (ci := 12) (q0 := 0) C (c_X12_toJudge l g H.size N σ x1 hd4) kw_X12_139 ⟨rfl, rfl⟩ ⟨Nat.le_of_ble_eq_true rfl, Nat.le_of_ble_eq_true rfl⟩ kv_X12_toJudge rfl rfl rfl hl.1 (Nat.le_of_ble_eq_true rfl) ⟨Nat.zero_le _, Nat.zero_le _⟩ dX12_tellJudge_45 hP hS rfl (fun H locs hP hS => ?_)
      cases hD
      exact ri_M C hr hP hS dX12_tellJudge_48
    · have hD := b_f c3 hD
      by_cases c5 : x2 = (2 : Int32)
      · have hD := b_t c5 hD
        refine lv_tableIn (off := 48) (tgt := 49) C.1 C.2.1 dX12_tellJudge_1 (by rw [c5]; decide) (by rw [c5]; decide) (by rw [c5]; rfl) (by decide) ?_
        refine lv_aload_n C.1 C.2.1 dX12_tellJudge_49 rfl (lv_at hl 0 rfl) ?_
        refine lv_iload_n C.1 C.2.1 dX12_tellJudge_50 rfl (lv_at hl 1 rfl) ?_
        obtain ⟨r6, hd6, hD⟩ := bp_some hD
        refine kVi_M (As := [.int x1]) (rest := []) (ci := 12) (q0 := 0) C (c_X12_sortsOf l g H.size N σ x1 hd6) kw_X12_142 ⟨rfl, rfl⟩ ⟨Nat.le_of_ble_eq_true rfl, Nat.le_of_ble_eq_true rfl⟩ kv_X12_sortsOf rfl rfl rfl hl.1 (Nat.le_of_ble_eq_true rfl) ⟨Nat.zero_le _, Nat.zero_le _⟩ dX12_tellJudge_51 hP hS rfl (fun H locs hP hS => ?_)
        cases hD
        exact ri_M C hr hP hS dX12_tellJudge_54
      · have hD := b_f c5 hD
        by_cases c7 : x2 = (3 : Int32)
        · have hD := b_t c7 hD
          refine lv_tableIn (off := 54) (tgt := 55) C.1 C.2.1 dX12_tellJudge_1 (by rw [c7]; decide) (by rw [c7]; decide) (by rw [c7]; rfl) (by decide) ?_
          refine lv_aload_n C.1 C.2.1 dX12_tellJudge_55 rfl (lv_at hl 0 rfl) ?_
          refine lv_iload_n C.1 C.2.1 dX12_tellJudge_56 rfl (lv_at hl 1 rfl) ?_
          obtain ⟨r8, hd8, hD⟩ := bp_some hD
          refine kVi_M (As := [.int x1]) (rest := []) (ci := 12) (q0 := 0) C (c_X12_testOf l g H.size N σ x1 hd8) kw_X12_145 ⟨rfl, rfl⟩ ⟨Nat.le_of_ble_eq_true rfl, Nat.le_of_ble_eq_true rfl⟩ kv_X12_testOf rfl rfl rfl hl.1 (Nat.le_of_ble_eq_true rfl) ⟨Nat.zero_le _, Nat.zero_le _⟩ dX12_tellJudge_57 hP hS rfl (fun H locs hP hS => ?_)
          cases hD
          exact ri_M C hr hP hS dX12_tellJudge_60
        · have hD := b_f c7 hD
          by_cases c9 : x2 = (4 : Int32)
          · have hD := b_t c9 hD
            refine lv_tableIn (off := 60) (tgt := 61) C.1 C.2.1 dX12_tellJudge_1 (by rw [c9]; decide) (by rw [c9]; decide) (by rw [c9]; rfl) (by decide) ?_
            refine lv_aload_n C.1 C.2.1 dX12_tellJudge_61 rfl (lv_at hl 0 rfl) ?_
            refine lv_iload_n C.1 C.2.1 dX12_tellJudge_62 rfl (lv_at hl 1 rfl) ?_
            obtain ⟨r10, hd10, hD⟩ := bp_some hD
            refine kVi_M (As := [.int x1]) (rest := []) (ci := 12) (q0 := 0) C (c_X12_twinsOf l g H.size N σ x1 hd10) kw_X12_148 ⟨rfl, rfl⟩ ⟨Nat.le_of_ble_eq_true rfl, Nat.le_of_ble_eq_true rfl⟩ kv_X12_twinsOf rfl rfl rfl hl.1 (Nat.le_of_ble_eq_true rfl) ⟨Nat.zero_le _, Nat.zero_le _⟩ dX12_tellJudge_63 hP hS rfl (fun H locs hP hS => ?_)
            cases hD
            exact ri_M C hr hP hS dX12_tellJudge_66
          · have hD := b_f c9 hD
            refine lv_tableOut (tgt := 67) C.1 C.2.1 dX12_tellJudge_1 (by have q1 := lv_neT c1 (a := 0) (by decide); have q3 := lv_neT c3 (a := 1) (by decide); have q5 := lv_neT c5 (a := 2) (by decide); have q7 := lv_neT c7 (a := 3) (by decide); have q9 := lv_neT c9 (a := 4) (by decide); omega) (by decide) ?_
            refine lv_bipush (v := (-102 : Int32)) C.1 C.2.1 dX12_tellJudge_67 (by decide) ?_
            cases hD
            exact ri_M C hr hP hS dX12_tellJudge_69
abbrev rm_X12_say : Room := { frames := 0, cells := 0, slots := 0, locals := 0 }
set_option maxHeartbeats 4000000 in
set_option maxRecDepth 100000 in
theorem c_X12_say (l : Launch) (g : Gx) (sz : Nat) (σ : St) (h : Int64) (y1 : Int64) {u : St} {hh : Int64} (hD : D_X12_say σ h y1 = some (u, hh)) : Met l yX12_say (Cond.code yX12_say cX12_say 3 (none) :: tb) rm_X12_say (PcM g h [.ref (g.2.2 31), .long y1] σ sz) (QvM g hh (AM g sz) u) 0 0 (AM g sz) := by
  refine Met.ofW (cc := cX12_say) (maxL := 3) (ret := none) (by decide) rfl ?_
  intro p e s m args below meth c s₁ B hml hv
  have hv0 := hv
  obtain ⟨rfl, hsz, hP, -⟩ := hv
  subst hsz
  have C : CM g (AM g s.heap.size) p s m _ meth c cX12_say 3 RX12 := CM.of B hml (fun w h => List.mem_cons_of_mem _ h) rfl hv0
  have hr := B.returns
  have hS : va_S (AM g s.heap.size) s.heap s.heap [] := va_S.rf
  have hl := lv_entry ([.ref (g.2.2 31), .long y1]) (n := 3) (Nat.le_of_ble_eq_true rfl)
  rw [lg_entry_eq]
  generalize (lg_sl ([.ref (g.2.2 31), .long y1]) ++ List.replicate (3 - (lg_sl ([.ref (g.2.2 31), .long y1])).length) Slot.unset).toArray = ls at hl ⊢
  have hl : lv_has ls 3 [(0, .ref (g.2.2 31)), (1, .long y1)] := hl
  obtain ⟨H, hH⟩ : ∃ H, H = s.heap := ⟨_, rfl⟩
  have hP : va_P g.1 vwCl (wM g h σ) H := by rw [hH]; exact hP
  have hS : va_S (AM g s.heap.size) s.heap H [] := by rw [hH]; exact hS
  refine wH hH ?_
  obtain ⟨locs, hlo⟩ : ∃ locs : List Loc, locs = [] := ⟨_, rfl⟩
  rw [← hlo] at hS
  refine wL hlo ?_
  unfold D_X12_say at hD
  refine lv_aload_n C.1 C.2.1 dX12_say_0 rfl (lv_at hl 0 rfl) ?_
  refine lv_ldc2 (v := (31 : Int64)) (own := RX12) C.1 C.2.1 C.2.2.2.1 (C.2.2.2.2.1 (.constantLong RX12 247 (31 : Int64)) (tb_in 1138 (by decide +kernel) (by decide +kernel))) dX12_say_1 ?_
  refine lv_aload_n C.1 C.2.1 dX12_say_4 rfl (lv_at hl 0 rfl) ?_
  refine gf_X12_249_31 C hP dX12_say_5 ?_
  refine lv_lmul C.1 C.2.1 dX12_say_8 ?_
  refine lv_lload_n C.1 C.2.1 dX12_say_9 rfl (lv_at hl 1 rfl) ?_
  refine lv_ladd C.1 C.2.1 dX12_say_10 ?_
  refine pf_X12_249_31 C hP hS dX12_say_11 (fun H locs hP hS => ?_)
  cases hD
  exact rv_M C hr hP hS dX12_say_14
abbrev rm_X12_restOf : Room := { frames := 5, cells := 0, slots := 0, locals := 119 }
set_option maxHeartbeats 4000000 in
set_option maxRecDepth 100000 in
theorem w_L_X12_restOf_71 (C : CM g A p s m args meth c cX12_restOf 8 RX12) (hr : meth.sig.returnType = some .int) (N : Nat) {h : Int64} {r : Int32} {u : St} (x3 : Int32) (x4 : Int32) : ∀ (n : Nat) (x5 : Int32) (x6 : Int32) (σ : St) (H : Heap) (locs : List Loc) (ls : Array Slot), lv_has ls 8 [(0, .ref (g.2.2 31)), (3, .int x3), (4, .int x4), (5, .int x5), (6, .int x6)] → va_P g.1 vwCl (wM g h σ) H → va_S A s.heap H locs → L_X12_restOf_71 N x3 x4 n x5 x6 σ = some (r, u) → W p l e rm_X12_restOf s m args below meth c H locs 0 0 (MQ below (QiM g h A r u) args s 0 0 A) (F0 m 71 ls []) := by
  intro n
  induction n with
  | zero =>
    intro x5 x6 σ H locs ls hl hP hS hD
    rw [L_X12_restOf_71] at hD
    cases hD
  | succ n ih =>
    intro x5 x6 σ H locs ls hl hP hS hD
    rw [L_X12_restOf_71] at hD
    refine lv_iload C.1 C.2.1 dX12_restOf_71 (lv_at hl 4 rfl) ?_
    refine lv_if_le (tgt := 94) C.1 C.2.1 dX12_restOf_73 (by decide) (fun c7 => ?_) (fun c7 => ?_)
    · have hD := b_t c7 hD
      refine lv_iload_n C.1 C.2.1 dX12_restOf_94 rfl (lv_at hl 1 rfl) ?_
      refine lv_if_ne (tgt := 106) C.1 C.2.1 dX12_restOf_95 (by decide) (fun c8 => ?_) (fun c8 => ?_)
      · have hD := b_f c8 hD
        refine lv_aload_n C.1 C.2.1 dX12_restOf_106 rfl (lv_at hl 0 rfl) ?_
        obtain ⟨r9, hd9, hD⟩ := bp_some hD
        refine kVi_M (As := []) (rest := []) (ci := 12) (q0 := 0) C (c_X12_fitMany l g H.size N σ hd9) kw_X12_126 ⟨rfl, rfl⟩ ⟨Nat.le_of_ble_eq_true rfl, Nat.le_of_ble_eq_true rfl⟩ kv_X12_fitMany rfl rfl rfl hl.1 (Nat.le_of_ble_eq_true rfl) ⟨Nat.zero_le _, Nat.zero_le _⟩ dX12_restOf_107 hP hS rfl (fun H locs hP hS => ?_)
        refine lv_iload C.1 C.2.1 dX12_restOf_110 (lv_at hl 3 rfl) ?_
        obtain ⟨hz10, hD⟩ := gz_some hD
        refine lv_idiv C.1 C.2.1 dX12_restOf_112 hz10 ?_
        cases hD
        exact ri_M C hr hP hS dX12_restOf_113
      · have hD := b_t c8 hD
        refine lv_iload C.1 C.2.1 dX12_restOf_98 (lv_at hl 2 rfl) ?_
        refine lv_iload C.1 C.2.1 dX12_restOf_100 (lv_at hl 3 rfl) ?_
        obtain ⟨hz11, hD⟩ := gz_some hD
        refine lv_idiv C.1 C.2.1 dX12_restOf_102 hz11 ?_
        refine lv_goto (tgt := 113) C.1 C.2.1 dX12_restOf_103 (by decide) ?_
        cases hD
        exact ri_M C hr hP hS dX12_restOf_113
    · have hD := b_f c7 hD
      refine lv_iload C.1 C.2.1 dX12_restOf_76 (lv_at hl 3 rfl) ?_
      refine lv_iload C.1 C.2.1 dX12_restOf_78 (lv_at hl 4 rfl) ?_
      obtain ⟨hz12, hD⟩ := gz_some hD
      refine lv_irem C.1 C.2.1 dX12_restOf_80 hz12 ?_
      refine lv_istore (lv' := [(7, .int (x5 - x5 / x6 * x6)), (0, .ref (g.2.2 31)), (3, .int x3), (4, .int x4), (5, .int x5), (6, .int x6)]) C.1 C.2.1 dX12_restOf_81 hl (by decide) rfl (fun ls hl => ?_)
      refine lv_iload C.1 C.2.1 dX12_restOf_83 (lv_at hl 5 rfl) ?_
      refine lv_istore (lv' := [(5, .int x6), (7, .int (x5 - x5 / x6 * x6)), (0, .ref (g.2.2 31)), (3, .int x3), (4, .int x4), (6, .int x6)]) C.1 C.2.1 dX12_restOf_85 hl (by decide) rfl (fun ls hl => ?_)
      refine lv_iload C.1 C.2.1 dX12_restOf_87 (lv_at hl 1 rfl) ?_
      refine lv_istore (lv' := [(6, .int (x5 - x5 / x6 * x6)), (5, .int x6), (7, .int (x5 - x5 / x6 * x6)), (0, .ref (g.2.2 31)), (3, .int x3), (4, .int x4)]) C.1 C.2.1 dX12_restOf_89 hl (by decide) rfl (fun ls hl => ?_)
      refine lv_goto (tgt := 71) C.1 C.2.1 dX12_restOf_91 (by decide) ?_
      exact ih x6 (x5 - x5 / x6 * x6) σ H locs ls (lv_sub hl [3, 4, 5, 1, 0] rfl) hP hS hD
set_option maxHeartbeats 4000000 in
set_option maxRecDepth 100000 in
theorem w_L_X12_restOf_21 (C : CM g A p s m args meth c cX12_restOf 8 RX12) (hr : meth.sig.returnType = some .int) (N : Nat) {h : Int64} {r : Int32} {u : St} (x3 : Int32) : ∀ (n : Nat) (x4 : Int32) (x5 : Int32) (σ : St) (H : Heap) (locs : List Loc) (ls : Array Slot), lv_has ls 8 [(0, .ref (g.2.2 31)), (3, .int x3), (4, .int x4), (5, .int x5)] → va_P g.1 vwCl (wM g h σ) H → va_S A s.heap H locs → L_X12_restOf_21 N x3 n x4 x5 σ = some (r, u) → W p l e rm_X12_restOf s m args below meth c H locs 0 0 (MQ below (QiM g h A r u) args s 0 0 A) (F0 m 21 ls []) := by
  intro n
  induction n with
  | zero =>
    intro x4 x5 σ H locs ls hl hP hS hD
    rw [L_X12_restOf_21] at hD
    cases hD
  | succ n ih =>
    intro x4 x5 σ H locs ls hl hP hS hD
    rw [L_X12_restOf_21] at hD
    refine lv_iload C.1 C.2.1 dX12_restOf_21 (lv_at hl 3 rfl) ?_
    refine lv_bipush (v := (41 : Int32)) C.1 C.2.1 dX12_restOf_23 (by decide) ?_
    refine lv_icmp_ge (tgt := 54) C.1 C.2.1 dX12_restOf_25 (by decide) (fun c4 => ?_) (fun c4 => ?_)
    · have hD := b_t c4 hD
      refine lv_iload C.1 C.2.1 dX12_restOf_54 (lv_at hl 2 rfl) ?_
      refine lv_if_ne (tgt := 61) C.1 C.2.1 dX12_restOf_56 (by decide) (fun c5 => ?_) (fun c5 => ?_)
      · have hD := b_f c5 hD
        refine lv_aload_n C.1 C.2.1 dX12_restOf_61 rfl (lv_at hl 0 rfl) ?_
        obtain ⟨r6, hd6, hD⟩ := bp_some hD
        refine kVi_M (As := []) (rest := []) (ci := 12) (q0 := 0) C (c_X12_fitMany l g H.size N σ hd6) kw_X12_126 ⟨rfl, rfl⟩ ⟨Nat.le_of_ble_eq_true rfl, Nat.le_of_ble_eq_true rfl⟩ kv_X12_fitMany rfl rfl rfl hl.1 (Nat.le_of_ble_eq_true rfl) ⟨Nat.zero_le _, Nat.zero_le _⟩ dX12_restOf_62 hP hS rfl (fun H locs hP hS => ?_)
        refine lv_istore (lv' := [(5, .int r6), (0, .ref (g.2.2 31)), (3, .int x3), (4, .int x4)]) C.1 C.2.1 dX12_restOf_65 hl (by decide) rfl (fun ls hl => ?_)
        refine lv_iload C.1 C.2.1 dX12_restOf_67 (lv_at hl 3 rfl) ?_
        refine lv_istore (lv' := [(6, .int x4), (5, .int r6), (0, .ref (g.2.2 31)), (3, .int x3), (4, .int x4)]) C.1 C.2.1 dX12_restOf_69 hl (by decide) rfl (fun ls hl => ?_)
        exact w_L_X12_restOf_71 C hr N x3 x4 N r6 x4 σ H locs ls (lv_sub hl [2, 3, 4, 1, 0] rfl) hP hS hD
      · have hD := b_t c5 hD
        refine lv_iload_n C.1 C.2.1 dX12_restOf_59 rfl (lv_at hl 1 rfl) ?_
        cases hD
        exact ri_M C hr hP hS dX12_restOf_60
    · have hD := b_f c4 hD
      refine lv_iload C.1 C.2.1 dX12_restOf_28 (lv_at hl 2 rfl) ?_
      refine lv_aload_n C.1 C.2.1 dX12_restOf_30 rfl (lv_at hl 0 rfl) ?_
      refine gf_X12_22_31 C hP dX12_restOf_31 ?_
      refine lv_iload C.1 C.2.1 dX12_restOf_34 (lv_at hl 3 rfl) ?_
      obtain ⟨hi13, hD⟩ := gi_some hD
      refine iaM C hP 5 rfl hi13 dX12_restOf_36 ?_
      refine lv_aload_n C.1 C.2.1 dX12_restOf_37 rfl (lv_at hl 0 rfl) ?_
      refine gf_X12_22_31 C hP dX12_restOf_38 ?_
      refine lv_iload C.1 C.2.1 dX12_restOf_41 (lv_at hl 3 rfl) ?_
      obtain ⟨hi14, hD⟩ := gi_some hD
      refine iaM C hP 5 rfl hi14 dX12_restOf_43 ?_
      refine lv_imul C.1 C.2.1 dX12_restOf_44 ?_
      refine lv_iadd C.1 C.2.1 dX12_restOf_45 ?_
      refine lv_istore (lv' := [(4, .int (x4 + ((σ 36 x5.toNatClampNeg) * (σ 36 x5.toNatClampNeg)))), (0, .ref (g.2.2 31)), (3, .int x3), (5, .int x5)]) C.1 C.2.1 dX12_restOf_46 hl (by decide) rfl (fun ls hl => ?_)
      refine lv_iinc (v := x5 + (1 : Int32)) (lv' := [(5, .int (x5 + (1 : Int32))), (4, .int (x4 + ((σ 36 x5.toNatClampNeg) * (σ 36 x5.toNatClampNeg)))), (0, .ref (g.2.2 31)), (3, .int x3)]) C.1 C.2.1 dX12_restOf_48 hl (k := 3) rfl rfl (by decide) rfl (fun ls hl => ?_)
      refine lv_goto (tgt := 21) C.1 C.2.1 dX12_restOf_51 (by decide) ?_
      exact ih (x4 + ((σ 36 x5.toNatClampNeg) * (σ 36 x5.toNatClampNeg))) (x5 + (1 : Int32)) σ H locs ls (lv_sub hl [2, 3, 1, 0] rfl) hP hS hD
set_option maxHeartbeats 4000000 in
set_option maxRecDepth 100000 in
theorem c_X12_restOf (l : Launch) (g : Gx) (sz : Nat) (N : Nat) (σ : St) (x1 : Int32) (x2 : Int32) (x3 : Int32) {h : Int64} {r : Int32} {u : St} (hD : D_X12_restOf N σ x1 x2 x3 = some (r, u)) : Met l yX12_restOf (Cond.code yX12_restOf cX12_restOf 8 (some .int) :: tb) rm_X12_restOf (PcM g h [.ref (g.2.2 31), .int x1, .int x2, .int x3] σ sz) (QiM g h (AM g sz) r u) 0 0 (AM g sz) := by
  refine Met.ofW (cc := cX12_restOf) (maxL := 8) (ret := some .int) (by decide) rfl ?_
  intro p e s m args below meth c s₁ B hml hv
  have hv0 := hv
  obtain ⟨rfl, hsz, hP, -⟩ := hv
  subst hsz
  have C : CM g (AM g s.heap.size) p s m _ meth c cX12_restOf 8 RX12 := CM.of B hml (fun w h => List.mem_cons_of_mem _ h) rfl hv0
  have hr := B.returns
  have hS : va_S (AM g s.heap.size) s.heap s.heap [] := va_S.rf
  have hl := lv_entry ([.ref (g.2.2 31), .int x1, .int x2, .int x3]) (n := 8) (Nat.le_of_ble_eq_true rfl)
  rw [lg_entry_eq]
  generalize (lg_sl ([.ref (g.2.2 31), .int x1, .int x2, .int x3]) ++ List.replicate (8 - (lg_sl ([.ref (g.2.2 31), .int x1, .int x2, .int x3])).length) Slot.unset).toArray = ls at hl ⊢
  have hl : lv_has ls 8 [(0, .ref (g.2.2 31)), (1, .int x1), (2, .int x2), (3, .int x3)] := hl
  obtain ⟨H, hH⟩ : ∃ H, H = s.heap := ⟨_, rfl⟩
  have hP : va_P g.1 vwCl (wM g h σ) H := by rw [hH]; exact hP
  have hS : va_S (AM g s.heap.size) s.heap H [] := by rw [hH]; exact hS
  refine wH hH ?_
  obtain ⟨locs, hlo⟩ : ∃ locs : List Loc, locs = [] := ⟨_, rfl⟩
  rw [← hlo] at hS
  refine wL hlo ?_
  unfold D_X12_restOf at hD
  refine lv_aload_n C.1 C.2.1 dX12_restOf_0 rfl (lv_at hl 0 rfl) ?_
  obtain ⟨s1, hd1, hD⟩ := bp_some hD
  refine kVv_M (As := []) (rest := []) (ci := 12) (q0 := 0) C (c_X12_layFit l g H.size N σ hd1) kw_X12_123 ⟨rfl, rfl⟩ ⟨Nat.le_of_ble_eq_true rfl, Nat.le_of_ble_eq_true rfl⟩ kv_X12_layFit rfl rfl rfl hl.1 (Nat.le_of_ble_eq_true rfl) ⟨Nat.zero_le _, Nat.zero_le _⟩ dX12_restOf_1 hP hS rfl (fun H locs hP hS => ?_)
  refine lv_aload_n C.1 C.2.1 dX12_restOf_4 rfl (lv_at hl 0 rfl) ?_
  refine lv_aload_n C.1 C.2.1 dX12_restOf_5 rfl (lv_at hl 0 rfl) ?_
  refine gf_X12_13_31 C hP dX12_restOf_6 ?_
  refine lv_iload_n C.1 C.2.1 dX12_restOf_9 rfl (lv_at hl 2 rfl) ?_
  obtain ⟨hi2, hD⟩ := gi_some hD
  refine iaM C hP 2 rfl hi2 dX12_restOf_10 ?_
  refine lv_iload_n C.1 C.2.1 dX12_restOf_11 rfl (lv_at hl 1 rfl) ?_
  obtain ⟨s3, hd3, hD⟩ := bp_some hD
  refine kVv_M (As := [.int (s1 33 x2.toNatClampNeg), .int x1]) (rest := []) (ci := 12) (q0 := 0) C (c_X12_laySizes l g H.size N s1 (s1 33 x2.toNatClampNeg) x1 hd3) kw_X12_167 ⟨rfl, rfl⟩ ⟨Nat.le_of_ble_eq_true rfl, Nat.le_of_ble_eq_true rfl⟩ kv_X12_laySizes rfl rfl rfl hl.1 (Nat.le_of_ble_eq_true rfl) ⟨Nat.zero_le _, Nat.zero_le _⟩ dX12_restOf_12 hP hS rfl (fun H locs hP hS => ?_)
  refine lv_iconst (v := (0 : Int32)) C.1 C.2.1 dX12_restOf_15 (by decide) ?_
  refine lv_istore (lv' := [(4, .int (0 : Int32)), (0, .ref (g.2.2 31)), (1, .int x1), (2, .int x2), (3, .int x3)]) C.1 C.2.1 dX12_restOf_16 hl (by decide) rfl (fun ls hl => ?_)
  refine lv_iconst (v := (0 : Int32)) C.1 C.2.1 dX12_restOf_18 (by decide) ?_
  refine lv_istore (lv' := [(5, .int (0 : Int32)), (4, .int (0 : Int32)), (0, .ref (g.2.2 31)), (1, .int x1), (2, .int x2), (3, .int x3)]) C.1 C.2.1 dX12_restOf_19 hl (by decide) rfl (fun ls hl => ?_)
  exact w_L_X12_restOf_21 C hr N x3 N (0 : Int32) (0 : Int32) s3 H locs ls (lv_sub hl [2, 5, 1, 0] rfl) hP hS hD
abbrev rm_X12_lacks : Room := { frames := 0, cells := 0, slots := 0, locals := 0 }
set_option maxHeartbeats 4000000 in
set_option maxRecDepth 100000 in
theorem c_X12_lacks (l : Launch) (g : Gx) (sz : Nat) (σ : St) {h : Int64} {r : Int32} (hD : D_X12_lacks σ = some r) : Met l yX12_lacks (Cond.code yX12_lacks cX12_lacks 1 (some .boolean) :: tb) rm_X12_lacks (PcM g h [.ref (g.2.2 31)] σ sz) (QiM g h (AM g sz) r σ) 0 0 (AM g sz) := by
  refine Met.ofW (cc := cX12_lacks) (maxL := 1) (ret := some .boolean) (by decide) rfl ?_
  intro p e s m args below meth c s₁ B hml hv
  have hv0 := hv
  obtain ⟨rfl, hsz, hP, -⟩ := hv
  subst hsz
  have C : CM g (AM g s.heap.size) p s m _ meth c cX12_lacks 1 RX12 := CM.of B hml (fun w h => List.mem_cons_of_mem _ h) rfl hv0
  have hr := B.returns
  have hS : va_S (AM g s.heap.size) s.heap s.heap [] := va_S.rf
  have hl := lv_entry ([.ref (g.2.2 31)]) (n := 1) (Nat.le_of_ble_eq_true rfl)
  rw [lg_entry_eq]
  generalize (lg_sl ([.ref (g.2.2 31)]) ++ List.replicate (1 - (lg_sl ([.ref (g.2.2 31)])).length) Slot.unset).toArray = ls at hl ⊢
  have hl : lv_has ls 1 [(0, .ref (g.2.2 31))] := hl
  obtain ⟨H, hH⟩ : ∃ H, H = s.heap := ⟨_, rfl⟩
  have hP : va_P g.1 vwCl (wM g h σ) H := by rw [hH]; exact hP
  have hS : va_S (AM g s.heap.size) s.heap H [] := by rw [hH]; exact hS
  refine wH hH ?_
  obtain ⟨locs, hlo⟩ : ∃ locs : List Loc, locs = [] := ⟨_, rfl⟩
  rw [← hlo] at hS
  refine wL hlo ?_
  unfold D_X12_lacks at hD
  refine lv_aload_n C.1 C.2.1 dX12_lacks_0 rfl (lv_at hl 0 rfl) ?_
  refine gf_X12_90_31 C hP dX12_lacks_1 ?_
  refine lv_if_ne (tgt := 11) C.1 C.2.1 dX12_lacks_4 (by decide) (fun c1 => ?_) (fun c1 => ?_)
  · have hD := b_f c1 hD
    refine lv_iconst (v := (0 : Int32)) C.1 C.2.1 dX12_lacks_11 (by decide) ?_
    cases hD
    exact rz_M C hr (Or.inl rfl) hP hS dX12_lacks_12
  · have hD := b_t c1 hD
    refine lv_iconst (v := (1 : Int32)) C.1 C.2.1 dX12_lacks_7 (by decide) ?_
    refine lv_goto (tgt := 12) C.1 C.2.1 dX12_lacks_8 (by decide) ?_
    cases hD
    exact rz_M C hr (Or.inr rfl) hP hS dX12_lacks_12
abbrev rm_X12_leftOf : Room := { frames := 5, cells := 0, slots := 0, locals := 119 }
set_option maxHeartbeats 4000000 in
set_option maxRecDepth 100000 in
theorem c_X12_leftOf (l : Launch) (g : Gx) (sz : Nat) (N : Nat) (σ : St) {h : Int64} {r : Int32} {u : St} (hD : D_X12_leftOf N σ = some (r, u)) : Met l yX12_leftOf (Cond.code yX12_leftOf cX12_leftOf 1 (some .int) :: tb) rm_X12_leftOf (PcM g h [.ref (g.2.2 31)] σ sz) (QiM g h (AM g sz) r u) 0 0 (AM g sz) := by
  refine Met.ofW (cc := cX12_leftOf) (maxL := 1) (ret := some .int) (by decide) rfl ?_
  intro p e s m args below meth c s₁ B hml hv
  have hv0 := hv
  obtain ⟨rfl, hsz, hP, -⟩ := hv
  subst hsz
  have C : CM g (AM g s.heap.size) p s m _ meth c cX12_leftOf 1 RX12 := CM.of B hml (fun w h => List.mem_cons_of_mem _ h) rfl hv0
  have hr := B.returns
  have hS : va_S (AM g s.heap.size) s.heap s.heap [] := va_S.rf
  have hl := lv_entry ([.ref (g.2.2 31)]) (n := 1) (Nat.le_of_ble_eq_true rfl)
  rw [lg_entry_eq]
  generalize (lg_sl ([.ref (g.2.2 31)]) ++ List.replicate (1 - (lg_sl ([.ref (g.2.2 31)])).length) Slot.unset).toArray = ls at hl ⊢
  have hl : lv_has ls 1 [(0, .ref (g.2.2 31))] := hl
  obtain ⟨H, hH⟩ : ∃ H, H = s.heap := ⟨_, rfl⟩
  have hP : va_P g.1 vwCl (wM g h σ) H := by rw [hH]; exact hP
  have hS : va_S (AM g s.heap.size) s.heap H [] := by rw [hH]; exact hS
  refine wH hH ?_
  obtain ⟨locs, hlo⟩ : ∃ locs : List Loc, locs = [] := ⟨_, rfl⟩
  rw [← hlo] at hS
  refine wL hlo ?_
  unfold D_X12_leftOf at hD
  refine lv_aload_n C.1 C.2.1 dX12_leftOf_0 rfl (lv_at hl 0 rfl) ?_
  obtain ⟨s1, hd1, hD⟩ := bp_some hD
  refine kVv_M (As := []) (rest := []) (ci := 12) (q0 := 0) C (c_X12_layFit l g H.size N σ hd1) kw_X12_123 ⟨rfl, rfl⟩ ⟨Nat.le_of_ble_eq_true rfl, Nat.le_of_ble_eq_true rfl⟩ kv_X12_layFit rfl rfl rfl hl.1 (Nat.le_of_ble_eq_true rfl) ⟨Nat.zero_le _, Nat.zero_le _⟩ dX12_leftOf_1 hP hS rfl (fun H locs hP hS => ?_)
  refine lv_aload_n C.1 C.2.1 dX12_leftOf_4 rfl (lv_at hl 0 rfl) ?_
  obtain ⟨r2, hd2, hD⟩ := bp_some hD
  refine kVi_M (As := []) (rest := []) (ci := 12) (q0 := 0) C (c_X12_fitMany l g H.size N s1 hd2) kw_X12_126 ⟨rfl, rfl⟩ ⟨Nat.le_of_ble_eq_true rfl, Nat.le_of_ble_eq_true rfl⟩ kv_X12_fitMany rfl rfl rfl hl.1 (Nat.le_of_ble_eq_true rfl) ⟨Nat.zero_le _, Nat.zero_le _⟩ dX12_leftOf_5 hP hS rfl (fun H locs hP hS => ?_)
  cases hD
  exact ri_M C hr hP hS dX12_leftOf_8
abbrev rm_X12_fitsOf : Room := { frames := 5, cells := 0, slots := 0, locals := 119 }
set_option maxHeartbeats 4000000 in
set_option maxRecDepth 100000 in
theorem w_J_X12_fitsOf_32 (C : CM g A p s m args meth c cX12_fitsOf 4 RX12) (hr : meth.sig.returnType = some .int) (N : Nat) {h : Int64} {r : Int32} {u : St} (kc8 : Int32 → Int32 → St → Option (Int32 × St)) (x2 : Int32) (x3 : Int32) (hk8 : ∀ (x2 : Int32) (x3 : Int32) (σ : St) (H : Heap) (locs : List Loc) (ls : Array Slot), lv_has ls 4 [(0, .ref (g.2.2 31)), (2, .int x2), (3, .int x3)] → va_P g.1 vwCl (wM g h σ) H → va_S A s.heap H locs → kc8 x2 x3 σ = some (r, u) → W p l e rm_X12_fitsOf s m args below meth c H locs 0 0 (MQ below (QiM g h A r u) args s 0 0 A) (F0 m 8 ls [])) : ∀ (σ : St) (H : Heap) (locs : List Loc) (ls : Array Slot), lv_has ls 4 [(0, .ref (g.2.2 31)), (2, .int x2), (3, .int x3)] → va_P g.1 vwCl (wM g h σ) H → va_S A s.heap H locs → J_X12_fitsOf_32 N kc8 x2 x3 σ = some (r, u) → W p l e rm_X12_fitsOf s m args below meth c H locs 0 0 (MQ below (QiM g h A r u) args s 0 0 A) (F0 m 32 ls []) := by
  intro σ H locs ls hl hP hS hD
  unfold J_X12_fitsOf_32 at hD
  refine lv_iload_n C.1 C.2.1 dX12_fitsOf_32 rfl (lv_at hl 1 rfl) ?_
  refine lv_aload_n C.1 C.2.1 dX12_fitsOf_33 rfl (lv_at hl 0 rfl) ?_
  refine gf_X12_19_31 C hP dX12_fitsOf_34 ?_
  refine lv_iload_n C.1 C.2.1 dX12_fitsOf_37 rfl (lv_at hl 2 rfl) ?_
  obtain ⟨hi5, hD⟩ := gi_some hD
  refine iaM C hP 4 rfl hi5 dX12_fitsOf_38 ?_
  refine lv_isub C.1 C.2.1 dX12_fitsOf_39 ?_
  refine lv_istore_n (lv' := [(2, .int (x2 - (σ 35 x3.toNatClampNeg))), (0, .ref (g.2.2 31)), (3, .int x3)]) C.1 C.2.1 dX12_fitsOf_40 rfl hl (by decide) rfl (fun ls hl => ?_)
  refine lv_iinc (v := x3 + (1 : Int32)) (lv' := [(3, .int (x3 + (1 : Int32))), (2, .int (x2 - (σ 35 x3.toNatClampNeg))), (0, .ref (g.2.2 31))]) C.1 C.2.1 dX12_fitsOf_41 hl (k := 2) rfl rfl (by decide) rfl (fun ls hl => ?_)
  refine lv_goto (tgt := 8) C.1 C.2.1 dX12_fitsOf_44 (by decide) ?_
  exact hk8 (x2 - (σ 35 x3.toNatClampNeg)) (x3 + (1 : Int32)) σ H locs ls (lv_sub hl [2, 1, 0] rfl) hP hS hD
set_option maxHeartbeats 4000000 in
set_option maxRecDepth 100000 in
theorem w_L_X12_fitsOf_8 (C : CM g A p s m args meth c cX12_fitsOf 4 RX12) (hr : meth.sig.returnType = some .int) (N : Nat) {h : Int64} {r : Int32} {u : St} : ∀ (n : Nat) (x2 : Int32) (x3 : Int32) (σ : St) (H : Heap) (locs : List Loc) (ls : Array Slot), lv_has ls 4 [(0, .ref (g.2.2 31)), (2, .int x2), (3, .int x3)] → va_P g.1 vwCl (wM g h σ) H → va_S A s.heap H locs → L_X12_fitsOf_8 N n x2 x3 σ = some (r, u) → W p l e rm_X12_fitsOf s m args below meth c H locs 0 0 (MQ below (QiM g h A r u) args s 0 0 A) (F0 m 8 ls []) := by
  intro n
  induction n with
  | zero =>
    intro x2 x3 σ H locs ls hl hP hS hD
    rw [L_X12_fitsOf_8] at hD
    cases hD
  | succ n ih =>
    intro x2 x3 σ H locs ls hl hP hS hD
    rw [L_X12_fitsOf_8] at hD
    refine lv_iload_n C.1 C.2.1 dX12_fitsOf_8 rfl (lv_at hl 2 rfl) ?_
    refine lv_aload_n C.1 C.2.1 dX12_fitsOf_9 rfl (lv_at hl 0 rfl) ?_
    refine gf_X12_90_31 C hP dX12_fitsOf_10 ?_
    refine lv_icmp_ge (tgt := 47) C.1 C.2.1 dX12_fitsOf_13 (by decide) (fun c2 => ?_) (fun c2 => ?_)
    · have hD := b_t c2 hD
      refine lv_iconst (v := (-1 : Int32)) C.1 C.2.1 dX12_fitsOf_47 (by decide) ?_
      cases hD
      exact ri_M C hr hP hS dX12_fitsOf_48
    · have hD := b_f c2 hD
      refine lv_aload_n C.1 C.2.1 dX12_fitsOf_16 rfl (lv_at hl 0 rfl) ?_
      refine gf_X12_19_31 C hP dX12_fitsOf_17 ?_
      refine lv_iload_n C.1 C.2.1 dX12_fitsOf_20 rfl (lv_at hl 2 rfl) ?_
      obtain ⟨hi3, hD⟩ := gi_some hD
      refine iaM C hP 4 rfl hi3 dX12_fitsOf_21 ?_
      refine lv_iconst (v := (1 : Int32)) C.1 C.2.1 dX12_fitsOf_22 (by decide) ?_
      refine lv_icmp_ne (tgt := 32) C.1 C.2.1 dX12_fitsOf_23 (by decide) (fun c4 => ?_) (fun c4 => ?_)
      · have hD := b_f c4 hD
        exact w_J_X12_fitsOf_32 C hr N (L_X12_fitsOf_8 N n) x2 x3 ih σ H locs ls (lv_sub hl [0, 1, 2] rfl) hP hS hD
      · have hD := b_t c4 hD
        refine lv_iload_n C.1 C.2.1 dX12_fitsOf_26 rfl (lv_at hl 1 rfl) ?_
        refine lv_if_ne (tgt := 32) C.1 C.2.1 dX12_fitsOf_27 (by decide) (fun c6 => ?_) (fun c6 => ?_)
        · have hD := b_f c6 hD
          exact w_J_X12_fitsOf_32 C hr N (L_X12_fitsOf_8 N n) x2 x3 ih σ H locs ls (lv_sub hl [0, 1, 2] rfl) hP hS hD
        · have hD := b_t c6 hD
          refine lv_iload_n C.1 C.2.1 dX12_fitsOf_30 rfl (lv_at hl 2 rfl) ?_
          cases hD
          exact ri_M C hr hP hS dX12_fitsOf_31
set_option maxHeartbeats 4000000 in
set_option maxRecDepth 100000 in
theorem c_X12_fitsOf (l : Launch) (g : Gx) (sz : Nat) (N : Nat) (σ : St) (x1 : Int32) {h : Int64} {r : Int32} {u : St} (hD : D_X12_fitsOf N σ x1 = some (r, u)) : Met l yX12_fitsOf (Cond.code yX12_fitsOf cX12_fitsOf 4 (some .int) :: tb) rm_X12_fitsOf (PcM g h [.ref (g.2.2 31), .int x1] σ sz) (QiM g h (AM g sz) r u) 0 0 (AM g sz) := by
  refine Met.ofW (cc := cX12_fitsOf) (maxL := 4) (ret := some .int) (by decide) rfl ?_
  intro p e s m args below meth c s₁ B hml hv
  have hv0 := hv
  obtain ⟨rfl, hsz, hP, -⟩ := hv
  subst hsz
  have C : CM g (AM g s.heap.size) p s m _ meth c cX12_fitsOf 4 RX12 := CM.of B hml (fun w h => List.mem_cons_of_mem _ h) rfl hv0
  have hr := B.returns
  have hS : va_S (AM g s.heap.size) s.heap s.heap [] := va_S.rf
  have hl := lv_entry ([.ref (g.2.2 31), .int x1]) (n := 4) (Nat.le_of_ble_eq_true rfl)
  rw [lg_entry_eq]
  generalize (lg_sl ([.ref (g.2.2 31), .int x1]) ++ List.replicate (4 - (lg_sl ([.ref (g.2.2 31), .int x1])).length) Slot.unset).toArray = ls at hl ⊢
  have hl : lv_has ls 4 [(0, .ref (g.2.2 31)), (1, .int x1)] := hl
  obtain ⟨H, hH⟩ : ∃ H, H = s.heap := ⟨_, rfl⟩
  have hP : va_P g.1 vwCl (wM g h σ) H := by rw [hH]; exact hP
  have hS : va_S (AM g s.heap.size) s.heap H [] := by rw [hH]; exact hS
  refine wH hH ?_
  obtain ⟨locs, hlo⟩ : ∃ locs : List Loc, locs = [] := ⟨_, rfl⟩
  rw [← hlo] at hS
  refine wL hlo ?_
  unfold D_X12_fitsOf at hD
  refine lv_aload_n C.1 C.2.1 dX12_fitsOf_0 rfl (lv_at hl 0 rfl) ?_
  obtain ⟨s1, hd1, hD⟩ := bp_some hD
  refine kVv_M (As := []) (rest := []) (ci := 12) (q0 := 0) C (c_X12_layFit l g H.size N σ hd1) kw_X12_123 ⟨rfl, rfl⟩ ⟨Nat.le_of_ble_eq_true rfl, Nat.le_of_ble_eq_true rfl⟩ kv_X12_layFit rfl rfl rfl hl.1 (Nat.le_of_ble_eq_true rfl) ⟨Nat.zero_le _, Nat.zero_le _⟩ dX12_fitsOf_1 hP hS rfl (fun H locs hP hS => ?_)
  refine lv_iload_n C.1 C.2.1 dX12_fitsOf_4 rfl (lv_at hl 1 rfl) ?_
  refine lv_istore_n (lv' := [(2, .int x1), (0, .ref (g.2.2 31)), (1, .int x1)]) C.1 C.2.1 dX12_fitsOf_5 rfl hl (by decide) rfl (fun ls hl => ?_)
  refine lv_iconst (v := (0 : Int32)) C.1 C.2.1 dX12_fitsOf_6 (by decide) ?_
  refine lv_istore_n (lv' := [(3, .int (0 : Int32)), (2, .int x1), (0, .ref (g.2.2 31)), (1, .int x1)]) C.1 C.2.1 dX12_fitsOf_7 rfl hl (by decide) rfl (fun ls hl => ?_)
  exact w_L_X12_fitsOf_8 C hr N N x1 (0 : Int32) s1 H locs ls (lv_sub hl [2, 1, 0] rfl) hP hS hD
abbrev rm_X12_digest : Room := { frames := 6, cells := 0, slots := 0, locals := 151 }
set_option maxHeartbeats 4000000 in
set_option maxRecDepth 100000 in
theorem w_L_X12_digest_155 (C : CM g A p s m args meth c cX12_digest 3 RX12) (hr : meth.sig.returnType = some .long) (N : Nat) {r : Int64} {u : St} {hh : Int64} : ∀ (n : Nat) (x1 : Int32) (σ : St) (h : Int64) (H : Heap) (locs : List Loc) (ls : Array Slot), lv_has ls 3 [(0, .ref (g.2.2 31)), (1, .int x1)] → va_P g.1 vwCl (wM g h σ) H → va_S A s.heap H locs → L_X12_digest_155 N n x1 σ h = some (r, (u, hh)) → W p l e rm_X12_digest s m args below meth c H locs 0 0 (MQ below (QlM g hh A r u) args s 0 0 A) (F0 m 155 ls []) := by
  intro n
  induction n with
  | zero =>
    intro x1 σ h H locs ls hl hP hS hD
    rw [L_X12_digest_155] at hD
    cases hD
  | succ n ih =>
    intro x1 σ h H locs ls hl hP hS hD
    rw [L_X12_digest_155] at hD
    refine lv_iload_n C.1 C.2.1 dX12_digest_155 rfl (lv_at hl 1 rfl) ?_
    refine lv_bipush (v := (11 : Int32)) C.1 C.2.1 dX12_digest_156 (by decide) ?_
    refine lv_icmp_ge (tgt := 177) C.1 C.2.1 dX12_digest_158 (by decide) (fun c6 => ?_) (fun c6 => ?_)
    · have hD := b_t c6 hD
      refine lv_aload_n C.1 C.2.1 dX12_digest_177 rfl (lv_at hl 0 rfl) ?_
      refine gf_X12_249_31 C hP dX12_digest_178 ?_
      cases hD
      exact rl_M C hr hP hS dX12_digest_181
    · have hD := b_f c6 hD
      refine lv_aload_n C.1 C.2.1 dX12_digest_161 rfl (lv_at hl 0 rfl) ?_
      refine lv_aload_n C.1 C.2.1 dX12_digest_162 rfl (lv_at hl 0 rfl) ?_
      refine lv_iload_n C.1 C.2.1 dX12_digest_163 rfl (lv_at hl 1 rfl) ?_
      obtain ⟨r7, hd7, hD⟩ := bp_some hD
      refine kVi_M (As := [.int x1]) (rest := [.ref (g.2.2 31)]) (ci := 12) (q0 := 0) C (c_X12_countOf l g H.size σ x1 hd7) kw_X12_244 ⟨rfl, rfl⟩ ⟨Nat.le_of_ble_eq_true rfl, Nat.le_of_ble_eq_true rfl⟩ kv_X12_countOf rfl rfl rfl hl.1 (Nat.le_of_ble_eq_true rfl) ⟨Nat.zero_le _, Nat.zero_le _⟩ dX12_digest_164 hP hS rfl (fun H locs hP hS => ?_)
      refine lv_i2l C.1 C.2.1 dX12_digest_167 rfl ?_
      obtain ⟨s8, h8, hd8, hD⟩ := bs_some hD
      refine kVv_M (As := [.long r7.toInt64]) (rest := []) (ci := 12) (q0 := 0) C (c_X12_say l g H.size σ h r7.toInt64 hd8) kw_X12_255 ⟨rfl, rfl⟩ ⟨Nat.le_of_ble_eq_true rfl, Nat.le_of_ble_eq_true rfl⟩ kv_X12_say rfl rfl rfl hl.1 (Nat.le_of_ble_eq_true rfl) ⟨Nat.zero_le _, Nat.zero_le _⟩ dX12_digest_168 hP hS rfl (fun H locs hP hS => ?_)
      refine lv_iinc (v := x1 + (1 : Int32)) (lv' := [(1, .int (x1 + (1 : Int32))), (0, .ref (g.2.2 31))]) C.1 C.2.1 dX12_digest_171 hl (k := 1) rfl rfl (by decide) rfl (fun ls hl => ?_)
      refine lv_goto (tgt := 155) C.1 C.2.1 dX12_digest_174 (by decide) ?_
      exact ih (x1 + (1 : Int32)) s8 h8 H locs ls (lv_sub hl [1, 0] rfl) hP hS hD
set_option maxHeartbeats 4000000 in
set_option maxRecDepth 100000 in
theorem w_L_X12_digest_128 (C : CM g A p s m args meth c cX12_digest 3 RX12) (hr : meth.sig.returnType = some .long) (N : Nat) {r : Int64} {u : St} {hh : Int64} : ∀ (n : Nat) (x1 : Int32) (σ : St) (h : Int64) (H : Heap) (locs : List Loc) (ls : Array Slot), lv_has ls 3 [(0, .ref (g.2.2 31)), (1, .int x1)] → va_P g.1 vwCl (wM g h σ) H → va_S A s.heap H locs → L_X12_digest_128 N n x1 σ h = some (r, (u, hh)) → W p l e rm_X12_digest s m args below meth c H locs 0 0 (MQ below (QlM g hh A r u) args s 0 0 A) (F0 m 128 ls []) := by
  intro n
  induction n with
  | zero =>
    intro x1 σ h H locs ls hl hP hS hD
    rw [L_X12_digest_128] at hD
    cases hD
  | succ n ih =>
    intro x1 σ h H locs ls hl hP hS hD
    rw [L_X12_digest_128] at hD
    refine lv_iload_n C.1 C.2.1 dX12_digest_128 rfl (lv_at hl 1 rfl) ?_
    refine lv_aload_n C.1 C.2.1 dX12_digest_129 rfl (lv_at hl 0 rfl) ?_
    refine gf_X12_50_31 C hP dX12_digest_130 ?_
    refine lv_icmp_ge (tgt := 153) C.1 C.2.1 dX12_digest_133 (by decide) (fun c5 => ?_) (fun c5 => ?_)
    · have hD := b_t c5 hD
      refine lv_iconst (v := (0 : Int32)) C.1 C.2.1 dX12_digest_153 (by decide) ?_
      refine lv_istore_n (lv' := [(1, .int (0 : Int32)), (0, .ref (g.2.2 31))]) C.1 C.2.1 dX12_digest_154 rfl hl (by decide) rfl (fun ls hl => ?_)
      exact w_L_X12_digest_155 C hr N N (0 : Int32) σ h H locs ls (lv_sub hl [1, 0] rfl) hP hS hD
    · have hD := b_f c5 hD
      refine lv_aload_n C.1 C.2.1 dX12_digest_136 rfl (lv_at hl 0 rfl) ?_
      refine lv_aload_n C.1 C.2.1 dX12_digest_137 rfl (lv_at hl 0 rfl) ?_
      refine gf_X12_7_31 C hP dX12_digest_138 ?_
      refine lv_iload_n C.1 C.2.1 dX12_digest_141 rfl (lv_at hl 1 rfl) ?_
      obtain ⟨hi9, hD⟩ := gi_some hD
      refine iaM C hP 1 rfl hi9 dX12_digest_142 ?_
      refine lv_i2l C.1 C.2.1 dX12_digest_143 rfl ?_
      obtain ⟨s10, h10, hd10, hD⟩ := bs_some hD
      refine kVv_M (As := [.long ((σ 32 x1.toNatClampNeg).toInt64)]) (rest := []) (ci := 12) (q0 := 0) C (c_X12_say l g H.size σ h ((σ 32 x1.toNatClampNeg).toInt64) hd10) kw_X12_255 ⟨rfl, rfl⟩ ⟨Nat.le_of_ble_eq_true rfl, Nat.le_of_ble_eq_true rfl⟩ kv_X12_say rfl rfl rfl hl.1 (Nat.le_of_ble_eq_true rfl) ⟨Nat.zero_le _, Nat.zero_le _⟩ dX12_digest_144 hP hS rfl (fun H locs hP hS => ?_)
      refine lv_iinc (v := x1 + (1 : Int32)) (lv' := [(1, .int (x1 + (1 : Int32))), (0, .ref (g.2.2 31))]) C.1 C.2.1 dX12_digest_147 hl (k := 1) rfl rfl (by decide) rfl (fun ls hl => ?_)
      refine lv_goto (tgt := 128) C.1 C.2.1 dX12_digest_150 (by decide) ?_
      exact ih (x1 + (1 : Int32)) s10 h10 H locs ls (lv_sub hl [1, 0] rfl) hP hS hD
set_option maxHeartbeats 4000000 in
set_option maxRecDepth 100000 in
theorem w_L_X12_digest_73 (C : CM g A p s m args meth c cX12_digest 3 RX12) (hr : meth.sig.returnType = some .long) (N : Nat) {r : Int64} {u : St} {hh : Int64} : ∀ (n : Nat) (x1 : Int32) (σ : St) (h : Int64) (H : Heap) (locs : List Loc) (ls : Array Slot), lv_has ls 3 [(0, .ref (g.2.2 31)), (1, .int x1)] → va_P g.1 vwCl (wM g h σ) H → va_S A s.heap H locs → L_X12_digest_73 N n x1 σ h = some (r, (u, hh)) → W p l e rm_X12_digest s m args below meth c H locs 0 0 (MQ below (QlM g hh A r u) args s 0 0 A) (F0 m 73 ls []) := by
  intro n
  induction n with
  | zero =>
    intro x1 σ h H locs ls hl hP hS hD
    rw [L_X12_digest_73] at hD
    cases hD
  | succ n ih =>
    intro x1 σ h H locs ls hl hP hS hD
    rw [L_X12_digest_73] at hD
    refine lv_iload_n C.1 C.2.1 dX12_digest_73 rfl (lv_at hl 1 rfl) ?_
    refine lv_iconst (v := (3 : Int32)) C.1 C.2.1 dX12_digest_74 (by decide) ?_
    refine lv_aload_n C.1 C.2.1 dX12_digest_75 rfl (lv_at hl 0 rfl) ?_
    refine gf_X12_93_31 C hP dX12_digest_76 ?_
    refine lv_imul C.1 C.2.1 dX12_digest_79 ?_
    refine lv_icmp_ge (tgt := 100) C.1 C.2.1 dX12_digest_80 (by decide) (fun c2 => ?_) (fun c2 => ?_)
    · have hD := b_t c2 hD
      refine lv_aload_n C.1 C.2.1 dX12_digest_100 rfl (lv_at hl 0 rfl) ?_
      obtain ⟨r3, hd3, hD⟩ := bp_some hD
      refine kVi_M (As := []) (rest := []) (ci := 12) (q0 := 0) C (c_X12_lacks l g H.size σ hd3) kw_X12_129 ⟨rfl, rfl⟩ ⟨Nat.le_of_ble_eq_true rfl, Nat.le_of_ble_eq_true rfl⟩ kv_X12_lacks rfl rfl rfl hl.1 (Nat.le_of_ble_eq_true rfl) ⟨Nat.zero_le _, Nat.zero_le _⟩ dX12_digest_101 hP hS rfl (fun H locs hP hS => ?_)
      refine lv_if_ne (tgt := 126) C.1 C.2.1 dX12_digest_104 (by decide) (fun c4 => ?_) (fun c4 => ?_)
      · have hD := b_f c4 hD
        refine lv_iconst (v := (0 : Int32)) C.1 C.2.1 dX12_digest_126 (by decide) ?_
        refine lv_istore_n (lv' := [(1, .int (0 : Int32)), (0, .ref (g.2.2 31))]) C.1 C.2.1 dX12_digest_127 rfl hl (by decide) rfl (fun ls hl => ?_)
        exact w_L_X12_digest_128 C hr N N (0 : Int32) σ h H locs ls (lv_sub hl [1, 0] rfl) hP hS hD
      · have hD := b_t c4 hD
        refine lv_aload_n C.1 C.2.1 dX12_digest_107 rfl (lv_at hl 0 rfl) ?_
        refine lv_aload_n C.1 C.2.1 dX12_digest_108 rfl (lv_at hl 0 rfl) ?_
        obtain ⟨r11, s11, hd11, hD⟩ := bs_some hD
        refine kVi_M (As := []) (rest := [.ref (g.2.2 31)]) (ci := 12) (q0 := 0) C (c_X12_leftOf l g H.size N σ hd11) kw_X12_133 ⟨rfl, rfl⟩ ⟨Nat.le_of_ble_eq_true rfl, Nat.le_of_ble_eq_true rfl⟩ kv_X12_leftOf rfl rfl rfl hl.1 (Nat.le_of_ble_eq_true rfl) ⟨Nat.zero_le _, Nat.zero_le _⟩ dX12_digest_109 hP hS rfl (fun H locs hP hS => ?_)
        refine lv_i2l C.1 C.2.1 dX12_digest_112 rfl ?_
        obtain ⟨s12, h12, hd12, hD⟩ := bs_some hD
        refine kVv_M (As := [.long r11.toInt64]) (rest := []) (ci := 12) (q0 := 0) C (c_X12_say l g H.size s11 h r11.toInt64 hd12) kw_X12_255 ⟨rfl, rfl⟩ ⟨Nat.le_of_ble_eq_true rfl, Nat.le_of_ble_eq_true rfl⟩ kv_X12_say rfl rfl rfl hl.1 (Nat.le_of_ble_eq_true rfl) ⟨Nat.zero_le _, Nat.zero_le _⟩ dX12_digest_113 hP hS rfl (fun H locs hP hS => ?_)
        refine lv_aload_n C.1 C.2.1 dX12_digest_116 rfl (lv_at hl 0 rfl) ?_
        refine lv_aload_n C.1 C.2.1 dX12_digest_117 rfl (lv_at hl 0 rfl) ?_
        refine lv_iconst (v := (0 : Int32)) C.1 C.2.1 dX12_digest_118 (by decide) ?_
        obtain ⟨r13, s13, hd13, hD⟩ := bs_some hD
        refine kVi_M (As := [.int (0 : Int32)]) (rest := [.ref (g.2.2 31)]) (ci := 12) (q0 := 0) C (c_X12_fitsOf l g H.size N s12 (0 : Int32) hd13) kw_X12_136 ⟨rfl, rfl⟩ ⟨Nat.le_of_ble_eq_true rfl, Nat.le_of_ble_eq_true rfl⟩ kv_X12_fitsOf rfl rfl rfl hl.1 (Nat.le_of_ble_eq_true rfl) ⟨Nat.zero_le _, Nat.zero_le _⟩ dX12_digest_119 hP hS rfl (fun H locs hP hS => ?_)
        refine lv_i2l C.1 C.2.1 dX12_digest_122 rfl ?_
        obtain ⟨s14, h14, hd14, hD⟩ := bs_some hD
        refine kVv_M (As := [.long r13.toInt64]) (rest := []) (ci := 12) (q0 := 0) C (c_X12_say l g H.size s13 h12 r13.toInt64 hd14) kw_X12_255 ⟨rfl, rfl⟩ ⟨Nat.le_of_ble_eq_true rfl, Nat.le_of_ble_eq_true rfl⟩ kv_X12_say rfl rfl rfl hl.1 (Nat.le_of_ble_eq_true rfl) ⟨Nat.zero_le _, Nat.zero_le _⟩ dX12_digest_123 hP hS rfl (fun H locs hP hS => ?_)
        refine lv_iconst (v := (0 : Int32)) C.1 C.2.1 dX12_digest_126 (by decide) ?_
        refine lv_istore_n (lv' := [(1, .int (0 : Int32)), (0, .ref (g.2.2 31))]) C.1 C.2.1 dX12_digest_127 rfl hl (by decide) rfl (fun ls hl => ?_)
        exact w_L_X12_digest_128 C hr N N (0 : Int32) s14 h14 H locs ls (lv_sub hl [1, 0] rfl) hP hS hD
    · have hD := b_f c2 hD
      refine lv_aload_n C.1 C.2.1 dX12_digest_83 rfl (lv_at hl 0 rfl) ?_
      refine lv_aload_n C.1 C.2.1 dX12_digest_84 rfl (lv_at hl 0 rfl) ?_
      refine gf_X12_16_31 C hP dX12_digest_85 ?_
      refine lv_iload_n C.1 C.2.1 dX12_digest_88 rfl (lv_at hl 1 rfl) ?_
      obtain ⟨hi15, hD⟩ := gi_some hD
      refine iaM C hP 3 rfl hi15 dX12_digest_89 ?_
      refine lv_i2l C.1 C.2.1 dX12_digest_90 rfl ?_
      obtain ⟨s16, h16, hd16, hD⟩ := bs_some hD
      refine kVv_M (As := [.long ((σ 34 x1.toNatClampNeg).toInt64)]) (rest := []) (ci := 12) (q0 := 0) C (c_X12_say l g H.size σ h ((σ 34 x1.toNatClampNeg).toInt64) hd16) kw_X12_255 ⟨rfl, rfl⟩ ⟨Nat.le_of_ble_eq_true rfl, Nat.le_of_ble_eq_true rfl⟩ kv_X12_say rfl rfl rfl hl.1 (Nat.le_of_ble_eq_true rfl) ⟨Nat.zero_le _, Nat.zero_le _⟩ dX12_digest_91 hP hS rfl (fun H locs hP hS => ?_)
      refine lv_iinc (v := x1 + (1 : Int32)) (lv' := [(1, .int (x1 + (1 : Int32))), (0, .ref (g.2.2 31))]) C.1 C.2.1 dX12_digest_94 hl (k := 1) rfl rfl (by decide) rfl (fun ls hl => ?_)
      refine lv_goto (tgt := 73) C.1 C.2.1 dX12_digest_97 (by decide) ?_
      exact ih (x1 + (1 : Int32)) s16 h16 H locs ls (lv_sub hl [1, 0] rfl) hP hS hD
set_option maxHeartbeats 4000000 in
set_option maxRecDepth 100000 in
theorem w_L_X12_digest_19 (C : CM g A p s m args meth c cX12_digest 3 RX12) (hr : meth.sig.returnType = some .long) (N : Nat) {r : Int64} {u : St} {hh : Int64} (kc9 : Int32 → St → Int64 → Option (Int64 × (St × Int64))) (x1 : Int32) (hk9 : ∀ (x1 : Int32) (σ : St) (h : Int64) (H : Heap) (locs : List Loc) (ls : Array Slot), lv_has ls 3 [(0, .ref (g.2.2 31)), (1, .int x1)] → va_P g.1 vwCl (wM g h σ) H → va_S A s.heap H locs → kc9 x1 σ h = some (r, (u, hh)) → W p l e rm_X12_digest s m args below meth c H locs 0 0 (MQ below (QlM g hh A r u) args s 0 0 A) (F0 m 9 ls [])) : ∀ (n : Nat) (x2 : Int32) (σ : St) (h : Int64) (H : Heap) (locs : List Loc) (ls : Array Slot), lv_has ls 3 [(0, .ref (g.2.2 31)), (1, .int x1), (2, .int x2)] → va_P g.1 vwCl (wM g h σ) H → va_S A s.heap H locs → L_X12_digest_19 N kc9 x1 n x2 σ h = some (r, (u, hh)) → W p l e rm_X12_digest s m args below meth c H locs 0 0 (MQ below (QlM g hh A r u) args s 0 0 A) (F0 m 19 ls []) := by
  intro n
  induction n with
  | zero =>
    intro x2 σ h H locs ls hl hP hS hD
    rw [L_X12_digest_19] at hD
    cases hD
  | succ n ih =>
    intro x2 σ h H locs ls hl hP hS hD
    rw [L_X12_digest_19] at hD
    refine lv_iload_n C.1 C.2.1 dX12_digest_19 rfl (lv_at hl 2 rfl) ?_
    refine lv_iconst (v := (4 : Int32)) C.1 C.2.1 dX12_digest_20 (by decide) ?_
    refine lv_icmp_ge (tgt := 41) C.1 C.2.1 dX12_digest_21 (by decide) (fun c17 => ?_) (fun c17 => ?_)
    · have hD := b_t c17 hD
      refine lv_aload_n C.1 C.2.1 dX12_digest_41 rfl (lv_at hl 0 rfl) ?_
      refine lv_aload_n C.1 C.2.1 dX12_digest_42 rfl (lv_at hl 0 rfl) ?_
      refine lv_iconst (v := (0 : Int32)) C.1 C.2.1 dX12_digest_43 (by decide) ?_
      refine lv_iload_n C.1 C.2.1 dX12_digest_44 rfl (lv_at hl 1 rfl) ?_
      refine lv_iconst (v := (0 : Int32)) C.1 C.2.1 dX12_digest_45 (by decide) ?_
      obtain ⟨r18, s18, hd18, hD⟩ := bs_some hD
      refine kVi_M (As := [.int (0 : Int32), .int x1, .int (0 : Int32)]) (rest := [.ref (g.2.2 31)]) (ci := 12) (q0 := 0) C (c_X12_restOf l g H.size N σ (0 : Int32) x1 (0 : Int32) hd18) kw_X12_183 ⟨rfl, rfl⟩ ⟨Nat.le_of_ble_eq_true rfl, Nat.le_of_ble_eq_true rfl⟩ kv_X12_restOf rfl rfl rfl hl.1 (Nat.le_of_ble_eq_true rfl) ⟨Nat.zero_le _, Nat.zero_le _⟩ dX12_digest_46 hP hS rfl (fun H locs hP hS => ?_)
      refine lv_i2l C.1 C.2.1 dX12_digest_49 rfl ?_
      obtain ⟨s19, h19, hd19, hD⟩ := bs_some hD
      refine kVv_M (As := [.long r18.toInt64]) (rest := []) (ci := 12) (q0 := 0) C (c_X12_say l g H.size s18 h r18.toInt64 hd19) kw_X12_255 ⟨rfl, rfl⟩ ⟨Nat.le_of_ble_eq_true rfl, Nat.le_of_ble_eq_true rfl⟩ kv_X12_say rfl rfl rfl hl.1 (Nat.le_of_ble_eq_true rfl) ⟨Nat.zero_le _, Nat.zero_le _⟩ dX12_digest_50 hP hS rfl (fun H locs hP hS => ?_)
      refine lv_aload_n C.1 C.2.1 dX12_digest_53 rfl (lv_at hl 0 rfl) ?_
      refine lv_aload_n C.1 C.2.1 dX12_digest_54 rfl (lv_at hl 0 rfl) ?_
      refine lv_iconst (v := (0 : Int32)) C.1 C.2.1 dX12_digest_55 (by decide) ?_
      refine lv_iload_n C.1 C.2.1 dX12_digest_56 rfl (lv_at hl 1 rfl) ?_
      refine lv_iconst (v := (1 : Int32)) C.1 C.2.1 dX12_digest_57 (by decide) ?_
      obtain ⟨r20, s20, hd20, hD⟩ := bs_some hD
      refine kVi_M (As := [.int (0 : Int32), .int x1, .int (1 : Int32)]) (rest := [.ref (g.2.2 31)]) (ci := 12) (q0 := 0) C (c_X12_restOf l g H.size N s19 (0 : Int32) x1 (1 : Int32) hd20) kw_X12_183 ⟨rfl, rfl⟩ ⟨Nat.le_of_ble_eq_true rfl, Nat.le_of_ble_eq_true rfl⟩ kv_X12_restOf rfl rfl rfl hl.1 (Nat.le_of_ble_eq_true rfl) ⟨Nat.zero_le _, Nat.zero_le _⟩ dX12_digest_58 hP hS rfl (fun H locs hP hS => ?_)
      refine lv_i2l C.1 C.2.1 dX12_digest_61 rfl ?_
      obtain ⟨s21, h21, hd21, hD⟩ := bs_some hD
      refine kVv_M (As := [.long r20.toInt64]) (rest := []) (ci := 12) (q0 := 0) C (c_X12_say l g H.size s20 h19 r20.toInt64 hd21) kw_X12_255 ⟨rfl, rfl⟩ ⟨Nat.le_of_ble_eq_true rfl, Nat.le_of_ble_eq_true rfl⟩ kv_X12_say rfl rfl rfl hl.1 (Nat.le_of_ble_eq_true rfl) ⟨Nat.zero_le _, Nat.zero_le _⟩ dX12_digest_62 hP hS rfl (fun H locs hP hS => ?_)
      refine lv_iinc (v := x1 + (1 : Int32)) (lv' := [(1, .int (x1 + (1 : Int32))), (0, .ref (g.2.2 31)), (2, .int x2)]) C.1 C.2.1 dX12_digest_65 hl (k := 1) rfl rfl (by decide) rfl (fun ls hl => ?_)
      refine lv_goto (tgt := 9) C.1 C.2.1 dX12_digest_68 (by decide) ?_
      exact hk9 (x1 + (1 : Int32)) s21 h21 H locs ls (lv_sub hl [1, 0] rfl) hP hS hD
    · have hD := b_f c17 hD
      refine lv_aload_n C.1 C.2.1 dX12_digest_24 rfl (lv_at hl 0 rfl) ?_
      refine lv_aload_n C.1 C.2.1 dX12_digest_25 rfl (lv_at hl 0 rfl) ?_
      refine lv_iload_n C.1 C.2.1 dX12_digest_26 rfl (lv_at hl 1 rfl) ?_
      refine lv_iload_n C.1 C.2.1 dX12_digest_27 rfl (lv_at hl 2 rfl) ?_
      obtain ⟨r22, hd22, hD⟩ := bp_some hD
      refine kVi_M (As := [.int x1, .int x2]) (rest := [.ref (g.2.2 31)]) (ci := 12) (q0 := 0) C (c_X12_tellJudge l g H.size N σ x1 x2 hd22) kw_X12_151 ⟨rfl, rfl⟩ ⟨Nat.le_of_ble_eq_true rfl, Nat.le_of_ble_eq_true rfl⟩ kv_X12_tellJudge rfl rfl rfl hl.1 (Nat.le_of_ble_eq_true rfl) ⟨Nat.zero_le _, Nat.zero_le _⟩ dX12_digest_28 hP hS rfl (fun H locs hP hS => ?_)
      refine lv_i2l C.1 C.2.1 dX12_digest_31 rfl ?_
      obtain ⟨s23, h23, hd23, hD⟩ := bs_some hD
      refine kVv_M (As := [.long r22.toInt64]) (rest := []) (ci := 12) (q0 := 0) C (c_X12_say l g H.size σ h r22.toInt64 hd23) kw_X12_255 ⟨rfl, rfl⟩ ⟨Nat.le_of_ble_eq_true rfl, Nat.le_of_ble_eq_true rfl⟩ kv_X12_say rfl rfl rfl hl.1 (Nat.le_of_ble_eq_true rfl) ⟨Nat.zero_le _, Nat.zero_le _⟩ dX12_digest_32 hP hS rfl (fun H locs hP hS => ?_)
      refine lv_iinc (v := x2 + (1 : Int32)) (lv' := [(2, .int (x2 + (1 : Int32))), (0, .ref (g.2.2 31)), (1, .int x1)]) C.1 C.2.1 dX12_digest_35 hl (k := 2) rfl rfl (by decide) rfl (fun ls hl => ?_)
      refine lv_goto (tgt := 19) C.1 C.2.1 dX12_digest_38 (by decide) ?_
      exact ih (x2 + (1 : Int32)) s23 h23 H locs ls (lv_sub hl [1, 2, 0] rfl) hP hS hD
set_option maxHeartbeats 4000000 in
set_option maxRecDepth 100000 in
theorem w_L_X12_digest_9 (C : CM g A p s m args meth c cX12_digest 3 RX12) (hr : meth.sig.returnType = some .long) (N : Nat) {r : Int64} {u : St} {hh : Int64} : ∀ (n : Nat) (x1 : Int32) (σ : St) (h : Int64) (H : Heap) (locs : List Loc) (ls : Array Slot), lv_has ls 3 [(0, .ref (g.2.2 31)), (1, .int x1)] → va_P g.1 vwCl (wM g h σ) H → va_S A s.heap H locs → L_X12_digest_9 N n x1 σ h = some (r, (u, hh)) → W p l e rm_X12_digest s m args below meth c H locs 0 0 (MQ below (QlM g hh A r u) args s 0 0 A) (F0 m 9 ls []) := by
  intro n
  induction n with
  | zero =>
    intro x1 σ h H locs ls hl hP hS hD
    rw [L_X12_digest_9] at hD
    cases hD
  | succ n ih =>
    intro x1 σ h H locs ls hl hP hS hD
    rw [L_X12_digest_9] at hD
    refine lv_iload_n C.1 C.2.1 dX12_digest_9 rfl (lv_at hl 1 rfl) ?_
    refine lv_aload_n C.1 C.2.1 dX12_digest_10 rfl (lv_at hl 0 rfl) ?_
    refine gf_X12_87_31 C hP dX12_digest_11 ?_
    refine lv_icmp_ge (tgt := 71) C.1 C.2.1 dX12_digest_14 (by decide) (fun c1 => ?_) (fun c1 => ?_)
    · have hD := b_t c1 hD
      refine lv_iconst (v := (0 : Int32)) C.1 C.2.1 dX12_digest_71 (by decide) ?_
      refine lv_istore_n (lv' := [(1, .int (0 : Int32)), (0, .ref (g.2.2 31))]) C.1 C.2.1 dX12_digest_72 rfl hl (by decide) rfl (fun ls hl => ?_)
      exact w_L_X12_digest_73 C hr N N (0 : Int32) σ h H locs ls (lv_sub hl [1, 0] rfl) hP hS hD
    · have hD := b_f c1 hD
      refine lv_iconst (v := (0 : Int32)) C.1 C.2.1 dX12_digest_17 (by decide) ?_
      refine lv_istore_n (lv' := [(2, .int (0 : Int32)), (0, .ref (g.2.2 31)), (1, .int x1)]) C.1 C.2.1 dX12_digest_18 rfl hl (by decide) rfl (fun ls hl => ?_)
      exact w_L_X12_digest_19 C hr N (L_X12_digest_9 N n) x1 ih N (0 : Int32) σ h H locs ls (lv_sub hl [1, 2, 0] rfl) hP hS hD
set_option maxHeartbeats 4000000 in
set_option maxRecDepth 100000 in
theorem c_X12_digest (l : Launch) (g : Gx) (sz : Nat) (N : Nat) (σ : St) (h : Int64) {r : Int64} {u : St} {hh : Int64} (hD : D_X12_digest N σ h = some (r, (u, hh))) : Met l yX12_digest (Cond.code yX12_digest cX12_digest 3 (some .long) :: tb) rm_X12_digest (PcM g h [.ref (g.2.2 31)] σ sz) (QlM g hh (AM g sz) r u) 0 0 (AM g sz) := by
  refine Met.ofW (cc := cX12_digest) (maxL := 3) (ret := some .long) (by decide) rfl ?_
  intro p e s m args below meth c s₁ B hml hv
  have hv0 := hv
  obtain ⟨rfl, hsz, hP, -⟩ := hv
  subst hsz
  have C : CM g (AM g s.heap.size) p s m _ meth c cX12_digest 3 RX12 := CM.of B hml (fun w h => List.mem_cons_of_mem _ h) rfl hv0
  have hr := B.returns
  have hS : va_S (AM g s.heap.size) s.heap s.heap [] := va_S.rf
  have hl := lv_entry ([.ref (g.2.2 31)]) (n := 3) (Nat.le_of_ble_eq_true rfl)
  rw [lg_entry_eq]
  generalize (lg_sl ([.ref (g.2.2 31)]) ++ List.replicate (3 - (lg_sl ([.ref (g.2.2 31)])).length) Slot.unset).toArray = ls at hl ⊢
  have hl : lv_has ls 3 [(0, .ref (g.2.2 31))] := hl
  obtain ⟨H, hH⟩ : ∃ H, H = s.heap := ⟨_, rfl⟩
  have hP : va_P g.1 vwCl (wM g h σ) H := by rw [hH]; exact hP
  have hS : va_S (AM g s.heap.size) s.heap H [] := by rw [hH]; exact hS
  refine wH hH ?_
  obtain ⟨locs, hlo⟩ : ∃ locs : List Loc, locs = [] := ⟨_, rfl⟩
  rw [← hlo] at hS
  refine wL hlo ?_
  unfold D_X12_digest at hD
  refine lv_aload_n C.1 C.2.1 dX12_digest_0 rfl (lv_at hl 0 rfl) ?_
  refine lv_ldc2 (v := (1297 : Int64)) (own := RX12) C.1 C.2.1 C.2.2.2.1 (C.2.2.2.2.1 (.constantLong RX12 253 (1297 : Int64)) (tb_in 1133 (by decide +kernel) (by decide +kernel))) dX12_digest_1 ?_
  refine pf_X12_249_31 C hP hS dX12_digest_4 (fun H locs hP hS => ?_)
  refine lv_iconst (v := (0 : Int32)) C.1 C.2.1 dX12_digest_7 (by decide) ?_
  refine lv_istore_n (lv' := [(1, .int (0 : Int32)), (0, .ref (g.2.2 31))]) C.1 C.2.1 dX12_digest_8 rfl hl (by decide) rfl (fun ls hl => ?_)
  exact w_L_X12_digest_9 C hr N N (0 : Int32) σ (1297 : Int64) H locs ls (lv_sub hl [1, 0] rfl) hP hS hD
abbrev rm_X12_draw : Room := { frames := 0, cells := 0, slots := 0, locals := 0 }
set_option maxHeartbeats 4000000 in
set_option maxRecDepth 100000 in
theorem c_X12_draw (l : Launch) (g : Gx) (sz : Nat) (σ : St) (x1 : Int32) {h : Int64} {r : Int32} {u : St} (hD : D_X12_draw σ x1 = some (r, u)) : Met l yX12_draw (Cond.code yX12_draw cX12_draw 2 (some .int) :: tb) rm_X12_draw (PcM g h [.ref (g.2.2 31), .int x1] σ sz) (QiM g h (AM g sz) r u) 0 0 (AM g sz) := by
  refine Met.ofW (cc := cX12_draw) (maxL := 2) (ret := some .int) (by decide) rfl ?_
  intro p e s m args below meth c s₁ B hml hv
  have hv0 := hv
  obtain ⟨rfl, hsz, hP, -⟩ := hv
  subst hsz
  have C : CM g (AM g s.heap.size) p s m _ meth c cX12_draw 2 RX12 := CM.of B hml (fun w h => List.mem_cons_of_mem _ h) rfl hv0
  have hr := B.returns
  have hS : va_S (AM g s.heap.size) s.heap s.heap [] := va_S.rf
  have hl := lv_entry ([.ref (g.2.2 31), .int x1]) (n := 2) (Nat.le_of_ble_eq_true rfl)
  rw [lg_entry_eq]
  generalize (lg_sl ([.ref (g.2.2 31), .int x1]) ++ List.replicate (2 - (lg_sl ([.ref (g.2.2 31), .int x1])).length) Slot.unset).toArray = ls at hl ⊢
  have hl : lv_has ls 2 [(0, .ref (g.2.2 31)), (1, .int x1)] := hl
  obtain ⟨H, hH⟩ : ∃ H, H = s.heap := ⟨_, rfl⟩
  have hP : va_P g.1 vwCl (wM g h σ) H := by rw [hH]; exact hP
  have hS : va_S (AM g s.heap.size) s.heap H [] := by rw [hH]; exact hS
  refine wH hH ?_
  obtain ⟨locs, hlo⟩ : ∃ locs : List Loc, locs = [] := ⟨_, rfl⟩
  rw [← hlo] at hS
  refine wL hlo ?_
  unfold D_X12_draw at hD
  refine lv_aload_n C.1 C.2.1 dX12_draw_0 rfl (lv_at hl 0 rfl) ?_
  refine lv_ldc2 (v := (1103515245 : Int64)) (own := RX12) C.1 C.2.1 C.2.2.2.1 (C.2.2.2.2.1 (.constantLong RX12 213 (1103515245 : Int64)) (tb_in 1102 (by decide +kernel) (by decide +kernel))) dX12_draw_1 ?_
  refine lv_aload_n C.1 C.2.1 dX12_draw_4 rfl (lv_at hl 0 rfl) ?_
  refine gf_X12_215_31 C hP dX12_draw_5 ?_
  refine lv_i2l C.1 C.2.1 dX12_draw_8 rfl ?_
  refine lv_lmul C.1 C.2.1 dX12_draw_9 ?_
  refine lv_ldc2 (v := (12345 : Int64)) (own := RX12) C.1 C.2.1 C.2.2.2.1 (C.2.2.2.2.1 (.constantLong RX12 218 (12345 : Int64)) (tb_in 1103 (by decide +kernel) (by decide +kernel))) dX12_draw_10 ?_
  refine lv_ladd C.1 C.2.1 dX12_draw_13 ?_
  refine lv_ldc2 (v := (2147483647 : Int64)) (own := RX12) C.1 C.2.1 C.2.2.2.1 (C.2.2.2.2.1 (.constantLong RX12 220 (2147483647 : Int64)) (tb_in 1104 (by decide +kernel) (by decide +kernel))) dX12_draw_14 ?_
  refine lv_land C.1 C.2.1 dX12_draw_17 ?_
  refine lv_l2i C.1 C.2.1 dX12_draw_18 rfl ?_
  refine pf_X12_215_31 C hP hS dX12_draw_19 (fun H locs hP hS => ?_)
  refine lv_aload_n C.1 C.2.1 dX12_draw_22 rfl (lv_at hl 0 rfl) ?_
  refine gf_X12_215_31 C hP dX12_draw_23 ?_
  refine w_rd (show (pt σ 31 20 (((((1103515245 : Int64) * ((σ 31 20).toInt64)) + (12345 : Int64)) &&& (2147483647 : Int64)).toInt32)) 31 20 = ((((1103515245 : Int64) * ((σ 31 20).toInt64)) + (12345 : Int64)) &&& (2147483647 : Int64)).toInt32 from rfl) ?_
  refine lv_ldc (v := (65536 : Int32)) (own := RX12) C.1 C.2.1 C.2.2.2.1 (C.2.2.2.2.1 (.constant RX12 222 (65536 : Int32)) (tb_in 1105 (by decide +kernel) (by decide +kernel))) dX12_draw_26 ?_
  refine lv_idiv C.1 C.2.1 dX12_draw_28 (by decide) ?_
  refine lv_iload_n C.1 C.2.1 dX12_draw_29 rfl (lv_at hl 1 rfl) ?_
  obtain ⟨hz2, hD⟩ := gz_some hD
  refine lv_irem C.1 C.2.1 dX12_draw_30 hz2 ?_
  cases hD
  exact ri_M C hr hP hS dX12_draw_31
abbrev rm_X12_kindBy : Room := { frames := 0, cells := 0, slots := 0, locals := 0 }
set_option maxHeartbeats 4000000 in
set_option maxRecDepth 100000 in
theorem c_X12_kindBy (l : Launch) (g : Gx) (sz : Nat) (σ : St) (x0 : Int32) {h : Int64} {r : Int32} (hD : D_X12_kindBy x0 = some r) : Met l yX12_kindBy (Cond.code yX12_kindBy cX12_kindBy 1 (some .int) :: tb) rm_X12_kindBy (PcM g h [.int x0] σ sz) (QiM g h (AM g sz) r σ) 0 0 (AM g sz) := by
  refine Met.ofW (cc := cX12_kindBy) (maxL := 1) (ret := some .int) (by decide) rfl ?_
  intro p e s m args below meth c s₁ B hml hv
  have hv0 := hv
  obtain ⟨rfl, hsz, hP, -⟩ := hv
  subst hsz
  have C : CM g (AM g s.heap.size) p s m _ meth c cX12_kindBy 1 RX12 := CM.of B hml (fun w h => List.mem_cons_of_mem _ h) rfl hv0
  have hr := B.returns
  have hS : va_S (AM g s.heap.size) s.heap s.heap [] := va_S.rf
  have hl := lv_entry ([.int x0]) (n := 1) (Nat.le_of_ble_eq_true rfl)
  rw [lg_entry_eq]
  generalize (lg_sl ([.int x0]) ++ List.replicate (1 - (lg_sl ([.int x0])).length) Slot.unset).toArray = ls at hl ⊢
  have hl : lv_has ls 1 [(0, .int x0)] := hl
  obtain ⟨H, hH⟩ : ∃ H, H = s.heap := ⟨_, rfl⟩
  have hP : va_P g.1 vwCl (wM g h σ) H := by rw [hH]; exact hP
  have hS : va_S (AM g s.heap.size) s.heap H [] := by rw [hH]; exact hS
  refine wH hH ?_
  obtain ⟨locs, hlo⟩ : ∃ locs : List Loc, locs = [] := ⟨_, rfl⟩
  rw [← hlo] at hS
  refine wL hlo ?_
  unfold D_X12_kindBy at hD
  refine lv_iload_n C.1 C.2.1 dX12_kindBy_0 rfl (lv_at hl 0 rfl) ?_
  by_cases c1 : x0 = (99 : Int32)
  · have hD := b_t c1 hD
    refine lv_lookup (off := 59) (tgt := 60) C.1 C.2.1 dX12_kindBy_1 (by decide +kernel) (by rw [c1]; decide +kernel) (by decide) ?_
    refine lv_iconst (v := (4 : Int32)) C.1 C.2.1 dX12_kindBy_60 (by decide) ?_
    cases hD
    exact ri_M C hr hP hS dX12_kindBy_61
  · have hD := b_f c1 hD
    by_cases c2 : x0 = (106 : Int32)
    · have hD := b_t c2 hD
      refine lv_lookup (off := 51) (tgt := 52) C.1 C.2.1 dX12_kindBy_1 (by decide +kernel) (by rw [c2]; decide +kernel) (by decide) ?_
      refine lv_iconst (v := (0 : Int32)) C.1 C.2.1 dX12_kindBy_52 (by decide) ?_
      cases hD
      exact ri_M C hr hP hS dX12_kindBy_53
    · have hD := b_f c2 hD
      by_cases c3 : x0 = (115 : Int32)
      · have hD := b_t c3 hD
        refine lv_lookup (off := 53) (tgt := 54) C.1 C.2.1 dX12_kindBy_1 (by decide +kernel) (by rw [c3]; decide +kernel) (by decide) ?_
        refine lv_iconst (v := (1 : Int32)) C.1 C.2.1 dX12_kindBy_54 (by decide) ?_
        cases hD
        exact ri_M C hr hP hS dX12_kindBy_55
      · have hD := b_f c3 hD
        by_cases c4 : x0 = (116 : Int32)
        · have hD := b_t c4 hD
          refine lv_lookup (off := 55) (tgt := 56) C.1 C.2.1 dX12_kindBy_1 (by decide +kernel) (by rw [c4]; decide +kernel) (by decide) ?_
          refine lv_iconst (v := (2 : Int32)) C.1 C.2.1 dX12_kindBy_56 (by decide) ?_
          cases hD
          exact ri_M C hr hP hS dX12_kindBy_57
        · have hD := b_f c4 hD
          by_cases c5 : x0 = (119 : Int32)
          · have hD := b_t c5 hD
            refine lv_lookup (off := 57) (tgt := 58) C.1 C.2.1 dX12_kindBy_1 (by decide +kernel) (by rw [c5]; decide +kernel) (by decide) ?_
            refine lv_iconst (v := (3 : Int32)) C.1 C.2.1 dX12_kindBy_58 (by decide) ?_
            cases hD
            exact ri_M C hr hP hS dX12_kindBy_59
          · have hD := b_f c5 hD
            refine lv_lookup (off := 61) (tgt := 62) C.1 C.2.1 dX12_kindBy_1 (by decide +kernel) (by show Op.lookupswitch.offset [(99, 59), (106, 51), (115, 53), (116, 55), (119, 57)] 61 _ = _; rw [lv_osw c1 (a := 99) (by decide), lv_osw c2 (a := 106) (by decide), lv_osw c3 (a := 115) (by decide), lv_osw c4 (a := 116) (by decide), lv_osw c5 (a := 119) (by decide)]; rfl) (by decide) ?_
            refine lv_iconst (v := (-1 : Int32)) C.1 C.2.1 dX12_kindBy_62 (by decide) ?_
            cases hD
            exact ri_M C hr hP hS dX12_kindBy_63
end WLK
