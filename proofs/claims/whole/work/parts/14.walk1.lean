section RCS
variable {p : Program} {l : Launch} {e : Env} {R : Room} {s : State} {m : MethodId} {args : Array Value} {below : List Frame} {meth : Method} {c : Code} {H : Heap} {locs : List Loc} {cells slots : Nat} {Q : State → Prop} {cc : ByteArray} {nL pc : Nat} {ls : Array Slot} {own : String} {rest : List Value} {g : Gx} {A : Nat → Prop} {σ : St} {h : Int64}
theorem recS (C : CX g A p s m args meth c cc nL own) (hS : va_S A s.heap H locs) : ∃ cell : Cell, H[g.2.2 50]? = some cell ∧ cell.vm.isStatics = false ∧ s.vm.findClass RJ0 = some cell.cls := vk_recv (adK := fun _ => g.2.2 50) (i := 0) C.2.2.2.2.2.2.2.2.2.2.2.1 (by decide) hS
end RCS
section WLK
variable {p : Program} {l : Launch} {e : Env} {s : State} {m : MethodId} {args : Array Value} {below : List Frame} {meth : Method} {c : Code} {g : Gx} {A : Nat → Prop}
abbrev rm_J0_coder_7d493 : Room := { frames := 0, cells := 0, slots := 0, locals := 0 }
set_option maxHeartbeats 4000000 in
set_option maxRecDepth 100000 in
theorem c_J0_coder_7d493 (l : Launch) (g : Gx) (sz : Nat) (σ : St) {r : Int32} (hD : D_J0_coder_7d493 σ = some r) : Met l yJ0_coder_7d493 (Cond.code yJ0_coder_7d493 cJ0_coder_7d493 1 (some .byte) :: tb) rm_J0_coder_7d493 (PcX g [.ref (g.2.2 50)] σ sz) (QiX g (AX g sz) r σ) 0 0 (AX g sz) := by
  refine Met.ofW (cc := cJ0_coder_7d493) (maxL := 1) (ret := some .byte) (by decide) rfl ?_
  intro p e s m args below meth c s₁ B hml hv
  have hv0 := hv
  obtain ⟨rfl, hsz, hP, -⟩ := hv
  subst hsz
  have C : CX g (AX g s.heap.size) p s m _ meth c cJ0_coder_7d493 1 RJ0 := CX.of B hml (fun w h => List.mem_cons_of_mem _ h) rfl hv0
  have hr := B.returns
  have hS : va_S (AX g s.heap.size) s.heap s.heap [] := va_S.rf
  have hl := lv_entry ([.ref (g.2.2 50)]) (n := 1) (Nat.le_of_ble_eq_true rfl)
  rw [lg_entry_eq]
  generalize (lg_sl ([.ref (g.2.2 50)]) ++ List.replicate (1 - (lg_sl ([.ref (g.2.2 50)])).length) Slot.unset).toArray = ls at hl ⊢
  have hl : lv_has ls 1 [(0, .ref (g.2.2 50))] := hl
  obtain ⟨H, hH⟩ : ∃ H, H = s.heap := ⟨_, rfl⟩
  have hP : va_P g.1 vwCl (wX g σ) H := by rw [hH]; exact hP
  have hS : va_S (AX g s.heap.size) s.heap H [] := by rw [hH]; exact hS
  refine wH hH ?_
  obtain ⟨locs, hlo⟩ : ∃ locs : List Loc, locs = [] := ⟨_, rfl⟩
  rw [← hlo] at hS
  refine wL hlo ?_
  unfold D_J0_coder_7d493 at hD
  refine va_gets (C := "java/lang/String") (n := "COMPACT_STRINGS") (d := "Z") (v := .int 1) C.1 C.2.1 C.2.2.2.2.2.2.2.2.2.2.2.2.1 hS C.2.2.2.1 (C.2.2.2.2.1 (.fieldLink RJ0 38 "java/lang/String" "COMPACT_STRINGS" "Z") (tb_in 375 (by decide +kernel) (by decide +kernel))) (fun _ h => h) dJ0_coder_7d493_0 ?_
  refine lv_if_eq (tgt := 13) C.1 C.2.1 dJ0_coder_7d493_3 (by decide) (fun c1 => ?_) (fun c1 => ?_)
  · have hD := b_t c1 hD
    refine lv_iconst (v := (1 : Int32)) C.1 C.2.1 dJ0_coder_7d493_13 (by decide) ?_
    cases hD
    exact rb_X C hr (by decide) hP hS dJ0_coder_7d493_14
  · have hD := b_f c1 hD
    refine lv_aload_n C.1 C.2.1 dJ0_coder_7d493_6 rfl (lv_at hl 0 rfl) ?_
    refine vk_getf C.1 C.2.1 (C.2.2.2.2.2.2.2.2.2.2.2.1.1 0 (by decide)).2.1 hS C.2.2.2.1 (C.2.2.2.2.1 (.fieldLink RJ0 15 "java/lang/String" "coder" "B") (tb_in 1144 (by decide +kernel) (by decide +kernel))) (fun _ h => h) dJ0_coder_7d493_7 ?_
    refine lv_goto (tgt := 14) C.1 C.2.1 dJ0_coder_7d493_10 (by decide) ?_
    cases hD
    exact rb_X C hr (by decide) hP hS dJ0_coder_7d493_14
abbrev rm_J0_isLatin1_aae02 : Room := { frames := 0, cells := 0, slots := 0, locals := 0 }
set_option maxHeartbeats 4000000 in
set_option maxRecDepth 100000 in
theorem c_J0_isLatin1_aae02 (l : Launch) (g : Gx) (sz : Nat) (σ : St) {r : Int32} (hD : D_J0_isLatin1_aae02 σ = some r) : Met l yJ0_isLatin1_aae02 (Cond.code yJ0_isLatin1_aae02 cJ0_isLatin1_aae02 1 (some .boolean) :: tb) rm_J0_isLatin1_aae02 (PcX g [.ref (g.2.2 50)] σ sz) (QiX g (AX g sz) r σ) 0 0 (AX g sz) := by
  refine Met.ofW (cc := cJ0_isLatin1_aae02) (maxL := 1) (ret := some .boolean) (by decide) rfl ?_
  intro p e s m args below meth c s₁ B hml hv
  have hv0 := hv
  obtain ⟨rfl, hsz, hP, -⟩ := hv
  subst hsz
  have C : CX g (AX g s.heap.size) p s m _ meth c cJ0_isLatin1_aae02 1 RJ0 := CX.of B hml (fun w h => List.mem_cons_of_mem _ h) rfl hv0
  have hr := B.returns
  have hS : va_S (AX g s.heap.size) s.heap s.heap [] := va_S.rf
  have hl := lv_entry ([.ref (g.2.2 50)]) (n := 1) (Nat.le_of_ble_eq_true rfl)
  rw [lg_entry_eq]
  generalize (lg_sl ([.ref (g.2.2 50)]) ++ List.replicate (1 - (lg_sl ([.ref (g.2.2 50)])).length) Slot.unset).toArray = ls at hl ⊢
  have hl : lv_has ls 1 [(0, .ref (g.2.2 50))] := hl
  obtain ⟨H, hH⟩ : ∃ H, H = s.heap := ⟨_, rfl⟩
  have hP : va_P g.1 vwCl (wX g σ) H := by rw [hH]; exact hP
  have hS : va_S (AX g s.heap.size) s.heap H [] := by rw [hH]; exact hS
  refine wH hH ?_
  obtain ⟨locs, hlo⟩ : ∃ locs : List Loc, locs = [] := ⟨_, rfl⟩
  rw [← hlo] at hS
  refine wL hlo ?_
  unfold D_J0_isLatin1_aae02 at hD
  refine va_gets (C := "java/lang/String") (n := "COMPACT_STRINGS") (d := "Z") (v := .int 1) C.1 C.2.1 C.2.2.2.2.2.2.2.2.2.2.2.2.1 hS C.2.2.2.1 (C.2.2.2.2.1 (.fieldLink RJ0 38 "java/lang/String" "COMPACT_STRINGS" "Z") (tb_in 375 (by decide +kernel) (by decide +kernel))) (fun _ h => h) dJ0_isLatin1_aae02_0 ?_
  refine lv_if_eq (tgt := 17) C.1 C.2.1 dJ0_isLatin1_aae02_3 (by decide) (fun c1 => ?_) (fun c1 => ?_)
  · have hD := b_t c1 hD
    refine lv_iconst (v := (0 : Int32)) C.1 C.2.1 dJ0_isLatin1_aae02_17 (by decide) ?_
    cases hD
    exact rz_X C hr (Or.inl rfl) hP hS dJ0_isLatin1_aae02_18
  · have hD := b_f c1 hD
    refine lv_aload_n C.1 C.2.1 dJ0_isLatin1_aae02_6 rfl (lv_at hl 0 rfl) ?_
    refine vk_getf C.1 C.2.1 (C.2.2.2.2.2.2.2.2.2.2.2.1.1 0 (by decide)).2.1 hS C.2.2.2.1 (C.2.2.2.2.1 (.fieldLink RJ0 15 "java/lang/String" "coder" "B") (tb_in 1144 (by decide +kernel) (by decide +kernel))) (fun _ h => h) dJ0_isLatin1_aae02_7 ?_
    refine lv_if_ne (tgt := 17) C.1 C.2.1 dJ0_isLatin1_aae02_10 (by decide) (fun c2 => ?_) (fun c2 => ?_)
    · have hD := b_f c2 hD
      refine lv_iconst (v := (0 : Int32)) C.1 C.2.1 dJ0_isLatin1_aae02_17 (by decide) ?_
      cases hD
      exact rz_X C hr (Or.inl rfl) hP hS dJ0_isLatin1_aae02_18
    · have hD := b_t c2 hD
      refine lv_iconst (v := (1 : Int32)) C.1 C.2.1 dJ0_isLatin1_aae02_13 (by decide) ?_
      refine lv_goto (tgt := 18) C.1 C.2.1 dJ0_isLatin1_aae02_14 (by decide) ?_
      cases hD
      exact rz_X C hr (Or.inr rfl) hP hS dJ0_isLatin1_aae02_18
abbrev rm_J0_length_8abf5 : Room := { frames := 1, cells := 0, slots := 0, locals := 20 }
set_option maxHeartbeats 4000000 in
set_option maxRecDepth 100000 in
theorem c_J0_length_8abf5 (l : Launch) (g : Gx) (sz : Nat) (σ : St) {r : Int32} (hD : D_J0_length_8abf5 σ = some r) : Met l yJ0_length_8abf5 (Cond.code yJ0_length_8abf5 cJ0_length_8abf5 1 (some .int) :: tb) rm_J0_length_8abf5 (PcX g [.ref (g.2.2 50)] σ sz) (QiX g (AX g sz) r σ) 0 0 (AX g sz) := by
  refine Met.ofW (cc := cJ0_length_8abf5) (maxL := 1) (ret := some .int) (by decide) rfl ?_
  intro p e s m args below meth c s₁ B hml hv
  have hv0 := hv
  obtain ⟨rfl, hsz, hP, -⟩ := hv
  subst hsz
  have C : CX g (AX g s.heap.size) p s m _ meth c cJ0_length_8abf5 1 RJ0 := CX.of B hml (fun w h => List.mem_cons_of_mem _ h) rfl hv0
  have hr := B.returns
  have hS : va_S (AX g s.heap.size) s.heap s.heap [] := va_S.rf
  have hl := lv_entry ([.ref (g.2.2 50)]) (n := 1) (Nat.le_of_ble_eq_true rfl)
  rw [lg_entry_eq]
  generalize (lg_sl ([.ref (g.2.2 50)]) ++ List.replicate (1 - (lg_sl ([.ref (g.2.2 50)])).length) Slot.unset).toArray = ls at hl ⊢
  have hl : lv_has ls 1 [(0, .ref (g.2.2 50))] := hl
  obtain ⟨H, hH⟩ : ∃ H, H = s.heap := ⟨_, rfl⟩
  have hP : va_P g.1 vwCl (wX g σ) H := by rw [hH]; exact hP
  have hS : va_S (AX g s.heap.size) s.heap H [] := by rw [hH]; exact hS
  refine wH hH ?_
  obtain ⟨locs, hlo⟩ : ∃ locs : List Loc, locs = [] := ⟨_, rfl⟩
  rw [← hlo] at hS
  refine wL hlo ?_
  unfold D_J0_length_8abf5 at hD
  refine lv_aload_n C.1 C.2.1 dJ0_length_8abf5_0 rfl (lv_at hl 0 rfl) ?_
  refine vk_getf C.1 C.2.1 (C.2.2.2.2.2.2.2.2.2.2.2.1.1 0 (by decide)).2.2.1 hS C.2.2.2.1 (C.2.2.2.2.1 (.fieldLink RJ0 9 "java/lang/String" "value" "[B") (tb_in 1145 (by decide +kernel) (by decide +kernel))) (fun _ h => h) dJ0_length_8abf5_1 ?_
  refine va_tlen (v := (5 : Int32)) C.1 C.2.1 (C.2.2.2.2.2.2.2.2.2.2.2.1.1 0 (by decide)).2.2.2 hS (by decide) dJ0_length_8abf5_4 ?_
  refine lv_aload_n C.1 C.2.1 dJ0_length_8abf5_5 rfl (lv_at hl 0 rfl) ?_
  obtain ⟨r1, hd1, hD⟩ := bp_some hD
  refine kVi_S (As := []) (rest := [.int (5 : Int32)]) C (c_J0_coder_7d493 l g H.size σ hd1) kw_J0_335 ⟨rfl, rfl⟩ ⟨Nat.le_of_ble_eq_true rfl, Nat.le_of_ble_eq_true rfl⟩ kv_J0_coder_7d493 (recS C hS) rfl hl.1 (Nat.le_of_ble_eq_true rfl) ⟨Nat.zero_le _, Nat.zero_le _⟩ dJ0_length_8abf5_6 hP hS rfl (fun H locs hP hS => ?_)
  refine lv_ishr C.1 C.2.1 dJ0_length_8abf5_9 ?_
  cases hD
  exact ri_X C hr hP hS dJ0_length_8abf5_10
abbrev rm_J1_canEncode_9a6ad : Room := { frames := 0, cells := 0, slots := 0, locals := 0 }
set_option maxHeartbeats 4000000 in
set_option maxRecDepth 100000 in
theorem c_J1_canEncode_9a6ad (l : Launch) (g : Gx) (sz : Nat) (σ : St) (x0 : Int32) {r : Int32} (hD : D_J1_canEncode_9a6ad x0 = some r) : Met l yJ1_canEncode_9a6ad (Cond.code yJ1_canEncode_9a6ad cJ1_canEncode_9a6ad 1 (some .boolean) :: tb) rm_J1_canEncode_9a6ad (PcX g [.int x0] σ sz) (QiX g (AX g sz) r σ) 0 0 (AX g sz) := by
  refine Met.ofW (cc := cJ1_canEncode_9a6ad) (maxL := 1) (ret := some .boolean) (by decide) rfl ?_
  intro p e s m args below meth c s₁ B hml hv
  have hv0 := hv
  obtain ⟨rfl, hsz, hP, -⟩ := hv
  subst hsz
  have C : CX g (AX g s.heap.size) p s m _ meth c cJ1_canEncode_9a6ad 1 RJ1 := CX.of B hml (fun w h => List.mem_cons_of_mem _ h) rfl hv0
  have hr := B.returns
  have hS : va_S (AX g s.heap.size) s.heap s.heap [] := va_S.rf
  have hl := lv_entry ([.int x0]) (n := 1) (Nat.le_of_ble_eq_true rfl)
  rw [lg_entry_eq]
  generalize (lg_sl ([.int x0]) ++ List.replicate (1 - (lg_sl ([.int x0])).length) Slot.unset).toArray = ls at hl ⊢
  have hl : lv_has ls 1 [(0, .int x0)] := hl
  obtain ⟨H, hH⟩ : ∃ H, H = s.heap := ⟨_, rfl⟩
  have hP : va_P g.1 vwCl (wX g σ) H := by rw [hH]; exact hP
  have hS : va_S (AX g s.heap.size) s.heap H [] := by rw [hH]; exact hS
  refine wH hH ?_
  obtain ⟨locs, hlo⟩ : ∃ locs : List Loc, locs = [] := ⟨_, rfl⟩
  rw [← hlo] at hS
  refine wL hlo ?_
  unfold D_J1_canEncode_9a6ad at hD
  refine lv_iload_n C.1 C.2.1 dJ1_canEncode_9a6ad_0 rfl (lv_at hl 0 rfl) ?_
  refine lv_if_lt (tgt := 15) C.1 C.2.1 dJ1_canEncode_9a6ad_1 (by decide) (fun c1 => ?_) (fun c1 => ?_)
  · have hD := b_t c1 hD
    refine lv_iconst (v := (0 : Int32)) C.1 C.2.1 dJ1_canEncode_9a6ad_15 (by decide) ?_
    cases hD
    exact rz_X C hr (Or.inl rfl) hP hS dJ1_canEncode_9a6ad_16
  · have hD := b_f c1 hD
    refine lv_iload_n C.1 C.2.1 dJ1_canEncode_9a6ad_4 rfl (lv_at hl 0 rfl) ?_
    refine lv_sipush (v := (255 : Int32)) C.1 C.2.1 dJ1_canEncode_9a6ad_5 (by decide) ?_
    refine lv_icmp_gt (tgt := 15) C.1 C.2.1 dJ1_canEncode_9a6ad_8 (by decide) (fun c2 => ?_) (fun c2 => ?_)
    · have hD := b_t c2 hD
      refine lv_iconst (v := (0 : Int32)) C.1 C.2.1 dJ1_canEncode_9a6ad_15 (by decide) ?_
      cases hD
      exact rz_X C hr (Or.inl rfl) hP hS dJ1_canEncode_9a6ad_16
    · have hD := b_f c2 hD
      refine lv_iconst (v := (1 : Int32)) C.1 C.2.1 dJ1_canEncode_9a6ad_11 (by decide) ?_
      refine lv_goto (tgt := 16) C.1 C.2.1 dJ1_canEncode_9a6ad_12 (by decide) ?_
      cases hD
      exact rz_X C hr (Or.inr rfl) hP hS dJ1_canEncode_9a6ad_16
abbrev rm_J1_indexOfChar_4cfef : Room := { frames := 0, cells := 0, slots := 0, locals := 0 }
set_option maxHeartbeats 4000000 in
set_option maxRecDepth 100000 in
theorem w_L_J1_indexOfChar_4cfef_7 (C : CX g A p s m args meth c cJ1_indexOfChar_4cfef 6 RJ1) (hr : meth.sig.returnType = some .int) (N : Nat) (σ : St) {r : Int32} (x3 : Int32) (x4 : Int32) : ∀ (n : Nat) (x5 : Int32) (H : Heap) (locs : List Loc) (ls : Array Slot), lv_has ls 6 [(0, .ref (g.2.2 51)), (3, .int x3), (4, .int x4), (5, .int x5)] → va_P g.1 vwCl (wX g σ) H → va_S A s.heap H locs → L_J1_indexOfChar_4cfef_7 N σ x3 x4 n x5 = some r → W p l e rm_J1_indexOfChar_4cfef s m args below meth c H locs 0 0 (MQ below (QiX g A r σ) args s 0 0 A) (F0 m 7 ls []) := by
  intro n
  induction n with
  | zero =>
    intro x5 H locs ls hl hP hS hD
    rw [L_J1_indexOfChar_4cfef_7] at hD
    cases hD
  | succ n ih =>
    intro x5 H locs ls hl hP hS hD
    rw [L_J1_indexOfChar_4cfef_7] at hD
    refine lv_iload C.1 C.2.1 dJ1_indexOfChar_4cfef_7 (lv_at hl 3 rfl) ?_
    refine lv_iload_n C.1 C.2.1 dJ1_indexOfChar_4cfef_9 rfl (lv_at hl 1 rfl) ?_
    refine lv_icmp_ge (tgt := 31) C.1 C.2.1 dJ1_indexOfChar_4cfef_10 (by decide) (fun c1 => ?_) (fun c1 => ?_)
    · have hD := b_t c1 hD
      refine lv_iconst (v := (-1 : Int32)) C.1 C.2.1 dJ1_indexOfChar_4cfef_31 (by decide) ?_
      cases hD
      exact ri_X C hr hP hS dJ1_indexOfChar_4cfef_32
    · have hD := b_f c1 hD
      refine lv_aload_n C.1 C.2.1 dJ1_indexOfChar_4cfef_13 rfl (lv_at hl 0 rfl) ?_
      refine lv_iload C.1 C.2.1 dJ1_indexOfChar_4cfef_14 (lv_at hl 3 rfl) ?_
      obtain ⟨hi2, hD⟩ := gi_some hD
      refine va_tb (v := .int (bt5 x5)) C.1 C.2.1 (C.2.2.2.2.2.2.2.2.2.2.2.1.1 0 (by decide)).2.2.2 hS hi2 rfl dJ1_indexOfChar_4cfef_16 ?_
      refine lv_iload C.1 C.2.1 dJ1_indexOfChar_4cfef_17 (lv_at hl 2 rfl) ?_
      refine lv_icmp_ne (tgt := 25) C.1 C.2.1 dJ1_indexOfChar_4cfef_19 (by decide) (fun c3 => ?_) (fun c3 => ?_)
      · have hD := b_f c3 hD
        refine lv_iinc (v := x5 + (1 : Int32)) (lv' := [(5, .int (x5 + (1 : Int32))), (0, .ref (g.2.2 51)), (3, .int x3), (4, .int x4)]) C.1 C.2.1 dJ1_indexOfChar_4cfef_25 hl (k := 3) rfl rfl (by decide) rfl (fun ls hl => ?_)
        refine lv_goto (tgt := 7) C.1 C.2.1 dJ1_indexOfChar_4cfef_28 (by decide) ?_
        exact ih (x5 + (1 : Int32)) H locs ls (lv_sub hl [1, 2, 3, 0] rfl) hP hS hD
      · have hD := b_t c3 hD
        refine lv_iload C.1 C.2.1 dJ1_indexOfChar_4cfef_22 (lv_at hl 3 rfl) ?_
        cases hD
        exact ri_X C hr hP hS dJ1_indexOfChar_4cfef_24
set_option maxHeartbeats 4000000 in
set_option maxRecDepth 100000 in
theorem c_J1_indexOfChar_4cfef (l : Launch) (g : Gx) (sz : Nat) (N : Nat) (σ : St) (x1 : Int32) (x2 : Int32) (x3 : Int32) {r : Int32} (hD : D_J1_indexOfChar_4cfef N σ x1 x2 x3 = some r) : Met l yJ1_indexOfChar_4cfef (Cond.code yJ1_indexOfChar_4cfef cJ1_indexOfChar_4cfef 6 (some .int) :: tb) rm_J1_indexOfChar_4cfef (PcX g [.ref (g.2.2 51), .int x1, .int x2, .int x3] σ sz) (QiX g (AX g sz) r σ) 0 0 (AX g sz) := by
  refine Met.ofW (cc := cJ1_indexOfChar_4cfef) (maxL := 6) (ret := some .int) (by decide) rfl ?_
  intro p e s m args below meth c s₁ B hml hv
  have hv0 := hv
  obtain ⟨rfl, hsz, hP, -⟩ := hv
  subst hsz
  have C : CX g (AX g s.heap.size) p s m _ meth c cJ1_indexOfChar_4cfef 6 RJ1 := CX.of B hml (fun w h => List.mem_cons_of_mem _ h) rfl hv0
  have hr := B.returns
  have hS : va_S (AX g s.heap.size) s.heap s.heap [] := va_S.rf
  have hl := lv_entry ([.ref (g.2.2 51), .int x1, .int x2, .int x3]) (n := 6) (Nat.le_of_ble_eq_true rfl)
  rw [lg_entry_eq]
  generalize (lg_sl ([.ref (g.2.2 51), .int x1, .int x2, .int x3]) ++ List.replicate (6 - (lg_sl ([.ref (g.2.2 51), .int x1, .int x2, .int x3])).length) Slot.unset).toArray = ls at hl ⊢
  have hl : lv_has ls 6 [(0, .ref (g.2.2 51)), (1, .int x1), (2, .int x2), (3, .int x3)] := hl
  obtain ⟨H, hH⟩ : ∃ H, H = s.heap := ⟨_, rfl⟩
  have hP : va_P g.1 vwCl (wX g σ) H := by rw [hH]; exact hP
  have hS : va_S (AX g s.heap.size) s.heap H [] := by rw [hH]; exact hS
  refine wH hH ?_
  obtain ⟨locs, hlo⟩ : ∃ locs : List Loc, locs = [] := ⟨_, rfl⟩
  rw [← hlo] at hS
  refine wL hlo ?_
  unfold D_J1_indexOfChar_4cfef at hD
  refine lv_iload_n C.1 C.2.1 dJ1_indexOfChar_4cfef_0 rfl (lv_at hl 1 rfl) ?_
  refine lv_i2b C.1 C.2.1 dJ1_indexOfChar_4cfef_1 rfl ?_
  refine lv_istore (lv' := [(4, .int x1.toInt8.toInt32), (0, .ref (g.2.2 51)), (1, .int x1), (2, .int x2), (3, .int x3)]) C.1 C.2.1 dJ1_indexOfChar_4cfef_2 hl (by decide) rfl (fun ls hl => ?_)
  refine lv_iload_n C.1 C.2.1 dJ1_indexOfChar_4cfef_4 rfl (lv_at hl 3 rfl) ?_
  refine lv_istore (lv' := [(5, .int x2), (4, .int x1.toInt8.toInt32), (0, .ref (g.2.2 51)), (1, .int x1), (2, .int x2), (3, .int x3)]) C.1 C.2.1 dJ1_indexOfChar_4cfef_5 hl (by decide) rfl (fun ls hl => ?_)
  exact w_L_J1_indexOfChar_4cfef_7 C hr N σ x3 x1.toInt8.toInt32 N x2 H locs ls (lv_sub hl [2, 5, 1, 0] rfl) hP hS hD
abbrev rm_J1_indexOf_4cfef : Room := { frames := 1, cells := 0, slots := 0, locals := 25 }
set_option maxHeartbeats 4000000 in
set_option maxRecDepth 100000 in
theorem c_J1_indexOf_4cfef (l : Launch) (g : Gx) (sz : Nat) (N : Nat) (σ : St) (x1 : Int32) (x2 : Int32) (x3 : Int32) {r : Int32} (hD : D_J1_indexOf_4cfef N σ x1 x2 x3 = some r) : Met l yJ1_indexOf_4cfef (Cond.code yJ1_indexOf_4cfef cJ1_indexOf_4cfef 4 (some .int) :: tb) rm_J1_indexOf_4cfef (PcX g [.ref (g.2.2 51), .int x1, .int x2, .int x3] σ sz) (QiX g (AX g sz) r σ) 0 0 (AX g sz) := by
  refine Met.ofW (cc := cJ1_indexOf_4cfef) (maxL := 4) (ret := some .int) (by decide) rfl ?_
  intro p e s m args below meth c s₁ B hml hv
  have hv0 := hv
  obtain ⟨rfl, hsz, hP, -⟩ := hv
  subst hsz
  have C : CX g (AX g s.heap.size) p s m _ meth c cJ1_indexOf_4cfef 4 RJ1 := CX.of B hml (fun w h => List.mem_cons_of_mem _ h) rfl hv0
  have hr := B.returns
  have hS : va_S (AX g s.heap.size) s.heap s.heap [] := va_S.rf
  have hl := lv_entry ([.ref (g.2.2 51), .int x1, .int x2, .int x3]) (n := 4) (Nat.le_of_ble_eq_true rfl)
  rw [lg_entry_eq]
  generalize (lg_sl ([.ref (g.2.2 51), .int x1, .int x2, .int x3]) ++ List.replicate (4 - (lg_sl ([.ref (g.2.2 51), .int x1, .int x2, .int x3])).length) Slot.unset).toArray = ls at hl ⊢
  have hl : lv_has ls 4 [(0, .ref (g.2.2 51)), (1, .int x1), (2, .int x2), (3, .int x3)] := hl
  obtain ⟨H, hH⟩ : ∃ H, H = s.heap := ⟨_, rfl⟩
  have hP : va_P g.1 vwCl (wX g σ) H := by rw [hH]; exact hP
  have hS : va_S (AX g s.heap.size) s.heap H [] := by rw [hH]; exact hS
  refine wH hH ?_
  obtain ⟨locs, hlo⟩ : ∃ locs : List Loc, locs = [] := ⟨_, rfl⟩
  rw [← hlo] at hS
  refine wL hlo ?_
  unfold D_J1_indexOf_4cfef at hD
  refine lv_iload_n C.1 C.2.1 dJ1_indexOf_4cfef_0 rfl (lv_at hl 1 rfl) ?_
  obtain ⟨r1, hd1, hD⟩ := bp_some hD
  refine kSi_X (As := [.int x1]) (rest := []) C (c_J1_canEncode_9a6ad l g H.size σ x1 hd1) kw_J1_88 ⟨rfl, rfl⟩ ⟨Nat.le_of_ble_eq_true rfl, Nat.le_of_ble_eq_true rfl⟩ ks_J1_canEncode_9a6ad rfl hl.1 (Nat.le_of_ble_eq_true rfl) ⟨Nat.zero_le _, Nat.zero_le _⟩ dJ1_indexOf_4cfef_1 hP hS rfl (fun H locs hP hS => ?_)
  refine lv_if_ne (tgt := 9) C.1 C.2.1 dJ1_indexOf_4cfef_4 (by decide) (fun c2 => ?_) (fun c2 => ?_)
  · have hD := b_f c2 hD
    refine lv_iload_n C.1 C.2.1 dJ1_indexOf_4cfef_9 rfl (lv_at hl 2 rfl) ?_
    refine lv_iconst (v := (0 : Int32)) C.1 C.2.1 dJ1_indexOf_4cfef_10 (by decide) ?_
    refine mx_X C kw_J1_92 hl.1 (Nat.le_of_ble_eq_true rfl) (Nat.le_of_ble_eq_true rfl) ⟨Nat.zero_le _, Nat.zero_le _⟩ dJ1_indexOf_4cfef_11 ?_
    refine lv_istore_n (lv' := [(2, .int (if x2 < (0 : Int32) then (0 : Int32) else x2)), (0, .ref (g.2.2 51)), (1, .int x1), (3, .int x3)]) C.1 C.2.1 dJ1_indexOf_4cfef_14 rfl hl (by decide) rfl (fun ls hl => ?_)
    refine lv_iload_n C.1 C.2.1 dJ1_indexOf_4cfef_15 rfl (lv_at hl 3 rfl) ?_
    refine lv_aload_n C.1 C.2.1 dJ1_indexOf_4cfef_16 rfl (lv_at hl 1 rfl) ?_
    refine va_tlen (v := (5 : Int32)) C.1 C.2.1 (C.2.2.2.2.2.2.2.2.2.2.2.1.1 0 (by decide)).2.2.2 hS (by decide) dJ1_indexOf_4cfef_17 ?_
    refine mn_X C kw_J1_38 hl.1 (Nat.le_of_ble_eq_true rfl) (Nat.le_of_ble_eq_true rfl) ⟨Nat.zero_le _, Nat.zero_le _⟩ dJ1_indexOf_4cfef_18 ?_
    refine lv_istore_n (lv' := [(3, .int (if (5 : Int32) < x3 then (5 : Int32) else x3)), (2, .int (if x2 < (0 : Int32) then (0 : Int32) else x2)), (0, .ref (g.2.2 51)), (1, .int x1)]) C.1 C.2.1 dJ1_indexOf_4cfef_21 rfl hl (by decide) rfl (fun ls hl => ?_)
    refine lv_iload_n C.1 C.2.1 dJ1_indexOf_4cfef_22 rfl (lv_at hl 1 rfl) ?_
    refine lv_iload_n C.1 C.2.1 dJ1_indexOf_4cfef_23 rfl (lv_at hl 0 rfl) ?_
    refine lv_icmp_lt (tgt := 29) C.1 C.2.1 dJ1_indexOf_4cfef_24 (by decide) (fun c5 => ?_) (fun c5 => ?_)
    · have hD := b_t c5 hD
      refine lv_aload_n C.1 C.2.1 dJ1_indexOf_4cfef_29 rfl (lv_at hl 2 rfl) ?_
      refine lv_iload_n C.1 C.2.1 dJ1_indexOf_4cfef_30 rfl (lv_at hl 3 rfl) ?_
      refine lv_iload_n C.1 C.2.1 dJ1_indexOf_4cfef_31 rfl (lv_at hl 1 rfl) ?_
      refine lv_iload_n C.1 C.2.1 dJ1_indexOf_4cfef_32 rfl (lv_at hl 0 rfl) ?_
      obtain ⟨r6, hd6, hD⟩ := bp_some hD
      refine kSi_X (As := [.ref (g.2.2 51), .int x1, .int (if x2 < (0 : Int32) then (0 : Int32) else x2), .int (if (5 : Int32) < x3 then (5 : Int32) else x3)]) (rest := []) C (c_J1_indexOfChar_4cfef l g H.size N σ x1 (if x2 < (0 : Int32) then (0 : Int32) else x2) (if (5 : Int32) < x3 then (5 : Int32) else x3) hd6) kw_J1_95 ⟨rfl, rfl⟩ ⟨Nat.le_of_ble_eq_true rfl, Nat.le_of_ble_eq_true rfl⟩ ks_J1_indexOfChar_4cfef rfl hl.1 (Nat.le_of_ble_eq_true rfl) ⟨Nat.zero_le _, Nat.zero_le _⟩ dJ1_indexOf_4cfef_33 hP hS rfl (fun H locs hP hS => ?_)
      cases hD
      exact ri_X C hr hP hS dJ1_indexOf_4cfef_36
    · have hD := b_f c5 hD
      refine lv_iconst (v := (-1 : Int32)) C.1 C.2.1 dJ1_indexOf_4cfef_27 (by decide) ?_
      cases hD
      exact ri_X C hr hP hS dJ1_indexOf_4cfef_28
  · have hD := b_t c2 hD
    refine lv_iconst (v := (-1 : Int32)) C.1 C.2.1 dJ1_indexOf_4cfef_7 (by decide) ?_
    cases hD
    exact ri_X C hr hP hS dJ1_indexOf_4cfef_8
abbrev rm_J0_indexOf_7cf53 : Room := { frames := 2, cells := 0, slots := 0, locals := 48 }
set_option maxHeartbeats 4000000 in
set_option maxRecDepth 100000 in
theorem c_J0_indexOf_7cf53 (l : Launch) (g : Gx) (sz : Nat) (N : Nat) (σ : St) (x1 : Int32) (x2 : Int32) {r : Int32} (hD : D_J0_indexOf_7cf53 N σ x1 x2 = some r) : Met l yJ0_indexOf_7cf53 (Cond.code yJ0_indexOf_7cf53 cJ0_indexOf_7cf53 3 (some .int) :: tb) rm_J0_indexOf_7cf53 (PcX g [.ref (g.2.2 50), .int x1, .int x2] σ sz) (QiX g (AX g sz) r σ) 0 0 (AX g sz) := by
  refine Met.ofW (cc := cJ0_indexOf_7cf53) (maxL := 3) (ret := some .int) (by decide) rfl ?_
  intro p e s m args below meth c s₁ B hml hv
  have hv0 := hv
  obtain ⟨rfl, hsz, hP, -⟩ := hv
  subst hsz
  have C : CX g (AX g s.heap.size) p s m _ meth c cJ0_indexOf_7cf53 3 RJ0 := CX.of B hml (fun w h => List.mem_cons_of_mem _ h) rfl hv0
  have hr := B.returns
  have hS : va_S (AX g s.heap.size) s.heap s.heap [] := va_S.rf
  have hl := lv_entry ([.ref (g.2.2 50), .int x1, .int x2]) (n := 3) (Nat.le_of_ble_eq_true rfl)
  rw [lg_entry_eq]
  generalize (lg_sl ([.ref (g.2.2 50), .int x1, .int x2]) ++ List.replicate (3 - (lg_sl ([.ref (g.2.2 50), .int x1, .int x2])).length) Slot.unset).toArray = ls at hl ⊢
  have hl : lv_has ls 3 [(0, .ref (g.2.2 50)), (1, .int x1), (2, .int x2)] := hl
  obtain ⟨H, hH⟩ : ∃ H, H = s.heap := ⟨_, rfl⟩
  have hP : va_P g.1 vwCl (wX g σ) H := by rw [hH]; exact hP
  have hS : va_S (AX g s.heap.size) s.heap H [] := by rw [hH]; exact hS
  refine wH hH ?_
  obtain ⟨locs, hlo⟩ : ∃ locs : List Loc, locs = [] := ⟨_, rfl⟩
  rw [← hlo] at hS
  refine wL hlo ?_
  unfold D_J0_indexOf_7cf53 at hD
  refine lv_aload_n C.1 C.2.1 dJ0_indexOf_7cf53_0 rfl (lv_at hl 0 rfl) ?_
  obtain ⟨r1, hd1, hD⟩ := bp_some hD
  refine kVi_S (As := []) (rest := []) C (c_J0_isLatin1_aae02 l g H.size σ hd1) kw_J0_492 ⟨rfl, rfl⟩ ⟨Nat.le_of_ble_eq_true rfl, Nat.le_of_ble_eq_true rfl⟩ kv_J0_isLatin1_aae02 (recS C hS) rfl hl.1 (Nat.le_of_ble_eq_true rfl) ⟨Nat.zero_le _, Nat.zero_le _⟩ dJ0_indexOf_7cf53_1 hP hS rfl (fun H locs hP hS => ?_)
  refine lv_if_eq (tgt := 23) C.1 C.2.1 dJ0_indexOf_7cf53_4 (by decide) (fun c2 => ?_) (fun c2 => ?_)
  · have hD := b_t c2 hD
    cases hD
  · have hD := b_f c2 hD
    refine lv_aload_n C.1 C.2.1 dJ0_indexOf_7cf53_7 rfl (lv_at hl 0 rfl) ?_
    refine vk_getf C.1 C.2.1 (C.2.2.2.2.2.2.2.2.2.2.2.1.1 0 (by decide)).2.2.1 hS C.2.2.2.1 (C.2.2.2.2.1 (.fieldLink RJ0 9 "java/lang/String" "value" "[B") (tb_in 1145 (by decide +kernel) (by decide +kernel))) (fun _ h => h) dJ0_indexOf_7cf53_8 ?_
    refine lv_iload_n C.1 C.2.1 dJ0_indexOf_7cf53_11 rfl (lv_at hl 1 rfl) ?_
    refine lv_iload_n C.1 C.2.1 dJ0_indexOf_7cf53_12 rfl (lv_at hl 2 rfl) ?_
    refine lv_aload_n C.1 C.2.1 dJ0_indexOf_7cf53_13 rfl (lv_at hl 0 rfl) ?_
    obtain ⟨r3, hd3, hD⟩ := bp_some hD
    refine kVi_S (As := []) (rest := [.int x2, .int x1, .ref (g.2.2 51)]) C (c_J0_length_8abf5 l g H.size σ hd3) kw_J0_505 ⟨rfl, rfl⟩ ⟨Nat.le_of_ble_eq_true rfl, Nat.le_of_ble_eq_true rfl⟩ kv_J0_length_8abf5 (recS C hS) rfl hl.1 (Nat.le_of_ble_eq_true rfl) ⟨Nat.zero_le _, Nat.zero_le _⟩ dJ0_indexOf_7cf53_14 hP hS rfl (fun H locs hP hS => ?_)
    obtain ⟨r4, hd4, hD⟩ := bp_some hD
    refine kSi_X (As := [.ref (g.2.2 51), .int x1, .int x2, .int r3]) (rest := []) C (c_J1_indexOf_4cfef l g H.size N σ x1 x2 r3 hd4) kw_J0_637 ⟨rfl, rfl⟩ ⟨Nat.le_of_ble_eq_true rfl, Nat.le_of_ble_eq_true rfl⟩ ks_J1_indexOf_4cfef rfl hl.1 (Nat.le_of_ble_eq_true rfl) ⟨Nat.zero_le _, Nat.zero_le _⟩ dJ0_indexOf_7cf53_17 hP hS rfl (fun H locs hP hS => ?_)
    refine lv_goto (tgt := 36) C.1 C.2.1 dJ0_indexOf_7cf53_20 (by decide) ?_
    cases hD
    exact ri_X C hr hP hS dJ0_indexOf_7cf53_36
abbrev rm_J0_indexOf_0f7a4 : Room := { frames := 3, cells := 0, slots := 0, locals := 70 }
set_option maxHeartbeats 4000000 in
set_option maxRecDepth 100000 in
theorem c_J0_indexOf_0f7a4 (l : Launch) (g : Gx) (sz : Nat) (N : Nat) (σ : St) (x1 : Int32) {r : Int32} (hD : D_J0_indexOf_0f7a4 N σ x1 = some r) : Met l yJ0_indexOf_0f7a4 (Cond.code yJ0_indexOf_0f7a4 cJ0_indexOf_0f7a4 2 (some .int) :: tb) rm_J0_indexOf_0f7a4 (PcX g [.ref (g.2.2 50), .int x1] σ sz) (QiX g (AX g sz) r σ) 0 0 (AX g sz) := by
  refine Met.ofW (cc := cJ0_indexOf_0f7a4) (maxL := 2) (ret := some .int) (by decide) rfl ?_
  intro p e s m args below meth c s₁ B hml hv
  have hv0 := hv
  obtain ⟨rfl, hsz, hP, -⟩ := hv
  subst hsz
  have C : CX g (AX g s.heap.size) p s m _ meth c cJ0_indexOf_0f7a4 2 RJ0 := CX.of B hml (fun w h => List.mem_cons_of_mem _ h) rfl hv0
  have hr := B.returns
  have hS : va_S (AX g s.heap.size) s.heap s.heap [] := va_S.rf
  have hl := lv_entry ([.ref (g.2.2 50), .int x1]) (n := 2) (Nat.le_of_ble_eq_true rfl)
  rw [lg_entry_eq]
  generalize (lg_sl ([.ref (g.2.2 50), .int x1]) ++ List.replicate (2 - (lg_sl ([.ref (g.2.2 50), .int x1])).length) Slot.unset).toArray = ls at hl ⊢
  have hl : lv_has ls 2 [(0, .ref (g.2.2 50)), (1, .int x1)] := hl
  obtain ⟨H, hH⟩ : ∃ H, H = s.heap := ⟨_, rfl⟩
  have hP : va_P g.1 vwCl (wX g σ) H := by rw [hH]; exact hP
  have hS : va_S (AX g s.heap.size) s.heap H [] := by rw [hH]; exact hS
  refine wH hH ?_
  obtain ⟨locs, hlo⟩ : ∃ locs : List Loc, locs = [] := ⟨_, rfl⟩
  rw [← hlo] at hS
  refine wL hlo ?_
  unfold D_J0_indexOf_0f7a4 at hD
  refine lv_aload_n C.1 C.2.1 dJ0_indexOf_0f7a4_0 rfl (lv_at hl 0 rfl) ?_
  refine lv_iload_n C.1 C.2.1 dJ0_indexOf_0f7a4_1 rfl (lv_at hl 1 rfl) ?_
  refine lv_iconst (v := (0 : Int32)) C.1 C.2.1 dJ0_indexOf_0f7a4_2 (by decide) ?_
  obtain ⟨r1, hd1, hD⟩ := bp_some hD
  refine kVi_S (As := [.int x1, .int (0 : Int32)]) (rest := []) C (c_J0_indexOf_7cf53 l g H.size N σ x1 (0 : Int32) hd1) kw_J0_633 ⟨rfl, rfl⟩ ⟨Nat.le_of_ble_eq_true rfl, Nat.le_of_ble_eq_true rfl⟩ kv_J0_indexOf_7cf53 (recS C hS) rfl hl.1 (Nat.le_of_ble_eq_true rfl) ⟨Nat.zero_le _, Nat.zero_le _⟩ dJ0_indexOf_0f7a4_3 hP hS rfl (fun H locs hP hS => ?_)
  cases hD
  exact ri_X C hr hP hS dJ0_indexOf_0f7a4_6
abbrev rm_J6_bitCount_0f7a4 : Room := { frames := 0, cells := 0, slots := 0, locals := 0 }
set_option maxHeartbeats 4000000 in
set_option maxRecDepth 100000 in
theorem c_J6_bitCount_0f7a4 (l : Launch) (g : Gx) (sz : Nat) (σ : St) (x0 : Int32) {r : Int32} (hD : D_J6_bitCount_0f7a4 x0 = some r) : Met l yJ6_bitCount_0f7a4 (Cond.code yJ6_bitCount_0f7a4 cJ6_bitCount_0f7a4 1 (some .int) :: tb) rm_J6_bitCount_0f7a4 (PcX g [.int x0] σ sz) (QiX g (AX g sz) r σ) 0 0 (AX g sz) := by
  refine Met.ofW (cc := cJ6_bitCount_0f7a4) (maxL := 1) (ret := some .int) (by decide) rfl ?_
  intro p e s m args below meth c s₁ B hml hv
  have hv0 := hv
  obtain ⟨rfl, hsz, hP, -⟩ := hv
  subst hsz
  have C : CX g (AX g s.heap.size) p s m _ meth c cJ6_bitCount_0f7a4 1 RJ6 := CX.of B hml (fun w h => List.mem_cons_of_mem _ h) rfl hv0
  have hr := B.returns
  have hS : va_S (AX g s.heap.size) s.heap s.heap [] := va_S.rf
  have hl := lv_entry ([.int x0]) (n := 1) (Nat.le_of_ble_eq_true rfl)
  rw [lg_entry_eq]
  generalize (lg_sl ([.int x0]) ++ List.replicate (1 - (lg_sl ([.int x0])).length) Slot.unset).toArray = ls at hl ⊢
  have hl : lv_has ls 1 [(0, .int x0)] := hl
  obtain ⟨H, hH⟩ : ∃ H, H = s.heap := ⟨_, rfl⟩
  have hP : va_P g.1 vwCl (wX g σ) H := by rw [hH]; exact hP
  have hS : va_S (AX g s.heap.size) s.heap H [] := by rw [hH]; exact hS
  refine wH hH ?_
  obtain ⟨locs, hlo⟩ : ∃ locs : List Loc, locs = [] := ⟨_, rfl⟩
  rw [← hlo] at hS
  refine wL hlo ?_
  unfold D_J6_bitCount_0f7a4 at hD
  refine lv_iload_n C.1 C.2.1 dJ6_bitCount_0f7a4_0 rfl (lv_at hl 0 rfl) ?_
  refine lv_iload_n C.1 C.2.1 dJ6_bitCount_0f7a4_1 rfl (lv_at hl 0 rfl) ?_
  refine lv_iconst (v := (1 : Int32)) C.1 C.2.1 dJ6_bitCount_0f7a4_2 (by decide) ?_
  refine lv_iushr C.1 C.2.1 dJ6_bitCount_0f7a4_3 rfl ?_
  refine lv_ldcw (v := (1431655765 : Int32)) (own := RJ6) C.1 C.2.1 C.2.2.2.1 (C.2.2.2.2.1 (.constant RJ6 265 (1431655765 : Int32)) (tb_in 522 (by decide +kernel) (by decide +kernel))) dJ6_bitCount_0f7a4_4 ?_
  refine lv_iand C.1 C.2.1 dJ6_bitCount_0f7a4_7 ?_
  refine lv_isub C.1 C.2.1 dJ6_bitCount_0f7a4_8 ?_
  refine lv_istore_n (lv' := [(0, .int (x0 - (((x0.toUInt32 >>> ((1 : Int32).toUInt32 &&& Int32.toUInt32 31)).toInt32) &&& (1431655765 : Int32))))]) C.1 C.2.1 dJ6_bitCount_0f7a4_9 rfl hl (by decide) rfl (fun ls hl => ?_)
  refine lv_iload_n C.1 C.2.1 dJ6_bitCount_0f7a4_10 rfl (lv_at hl 0 rfl) ?_
  refine lv_ldcw (v := (858993459 : Int32)) (own := RJ6) C.1 C.2.1 C.2.2.2.1 (C.2.2.2.2.1 (.constant RJ6 266 (858993459 : Int32)) (tb_in 523 (by decide +kernel) (by decide +kernel))) dJ6_bitCount_0f7a4_11 ?_
  refine lv_iand C.1 C.2.1 dJ6_bitCount_0f7a4_14 ?_
  refine lv_iload_n C.1 C.2.1 dJ6_bitCount_0f7a4_15 rfl (lv_at hl 0 rfl) ?_
  refine lv_iconst (v := (2 : Int32)) C.1 C.2.1 dJ6_bitCount_0f7a4_16 (by decide) ?_
  refine lv_iushr C.1 C.2.1 dJ6_bitCount_0f7a4_17 rfl ?_
  refine lv_ldcw (v := (858993459 : Int32)) (own := RJ6) C.1 C.2.1 C.2.2.2.1 (C.2.2.2.2.1 (.constant RJ6 266 (858993459 : Int32)) (tb_in 523 (by decide +kernel) (by decide +kernel))) dJ6_bitCount_0f7a4_18 ?_
  refine lv_iand C.1 C.2.1 dJ6_bitCount_0f7a4_21 ?_
  refine lv_iadd C.1 C.2.1 dJ6_bitCount_0f7a4_22 ?_
  refine lv_istore_n (lv' := [(0, .int (((x0 - (((x0.toUInt32 >>> ((1 : Int32).toUInt32 &&& Int32.toUInt32 31)).toInt32) &&& (1431655765 : Int32))) &&& (858993459 : Int32)) + ((((x0 - (((x0.toUInt32 >>> ((1 : Int32).toUInt32 &&& Int32.toUInt32 31)).toInt32) &&& (1431655765 : Int32))).toUInt32 >>> ((2 : Int32).toUInt32 &&& Int32.toUInt32 31)).toInt32) &&& (858993459 : Int32))))]) C.1 C.2.1 dJ6_bitCount_0f7a4_23 rfl hl (by decide) rfl (fun ls hl => ?_)
  refine lv_iload_n C.1 C.2.1 dJ6_bitCount_0f7a4_24 rfl (lv_at hl 0 rfl) ?_
  refine lv_iload_n C.1 C.2.1 dJ6_bitCount_0f7a4_25 rfl (lv_at hl 0 rfl) ?_
  refine lv_iconst (v := (4 : Int32)) C.1 C.2.1 dJ6_bitCount_0f7a4_26 (by decide) ?_
  refine lv_iushr C.1 C.2.1 dJ6_bitCount_0f7a4_27 rfl ?_
  refine lv_iadd C.1 C.2.1 dJ6_bitCount_0f7a4_28 ?_
  refine lv_ldcw (v := (252645135 : Int32)) (own := RJ6) C.1 C.2.1 C.2.2.2.1 (C.2.2.2.2.1 (.constant RJ6 267 (252645135 : Int32)) (tb_in 524 (by decide +kernel) (by decide +kernel))) dJ6_bitCount_0f7a4_29 ?_
  refine lv_iand C.1 C.2.1 dJ6_bitCount_0f7a4_32 ?_
  refine lv_istore_n (lv' := [(0, .int (((((x0 - (((x0.toUInt32 >>> ((1 : Int32).toUInt32 &&& Int32.toUInt32 31)).toInt32) &&& (1431655765 : Int32))) &&& (858993459 : Int32)) + ((((x0 - (((x0.toUInt32 >>> ((1 : Int32).toUInt32 &&& Int32.toUInt32 31)).toInt32) &&& (1431655765 : Int32))).toUInt32 >>> ((2 : Int32).toUInt32 &&& Int32.toUInt32 31)).toInt32) &&& (858993459 : Int32))) + (((((x0 - (((x0.toUInt32 >>> ((1 : Int32).toUInt32 &&& Int32.toUInt32 31)).toInt32) &&& (1431655765 : Int32))) &&& (858993459 : Int32)) + ((((x0 - (((x0.toUInt32 >>> ((1 : Int32).toUInt32 &&& Int32.toUInt32 31)).toInt32) &&& (1431655765 : Int32))).toUInt32 >>> ((2 : Int32).toUInt32 &&& Int32.toUInt32 31)).toInt32) &&& (858993459 : Int32))).toUInt32 >>> ((4 : Int32).toUInt32 &&& Int32.toUInt32 31)).toInt32)) &&& (252645135 : Int32)))]) C.1 C.2.1 dJ6_bitCount_0f7a4_33 rfl hl (by decide) rfl (fun ls hl => ?_)
  refine lv_iload_n C.1 C.2.1 dJ6_bitCount_0f7a4_34 rfl (lv_at hl 0 rfl) ?_
  refine lv_iload_n C.1 C.2.1 dJ6_bitCount_0f7a4_35 rfl (lv_at hl 0 rfl) ?_
  refine lv_bipush (v := (8 : Int32)) C.1 C.2.1 dJ6_bitCount_0f7a4_36 (by decide) ?_
  refine lv_iushr C.1 C.2.1 dJ6_bitCount_0f7a4_38 rfl ?_
  refine lv_iadd C.1 C.2.1 dJ6_bitCount_0f7a4_39 ?_
  refine lv_istore_n (lv' := [(0, .int ((((((x0 - (((x0.toUInt32 >>> ((1 : Int32).toUInt32 &&& Int32.toUInt32 31)).toInt32) &&& (1431655765 : Int32))) &&& (858993459 : Int32)) + ((((x0 - (((x0.toUInt32 >>> ((1 : Int32).toUInt32 &&& Int32.toUInt32 31)).toInt32) &&& (1431655765 : Int32))).toUInt32 >>> ((2 : Int32).toUInt32 &&& Int32.toUInt32 31)).toInt32) &&& (858993459 : Int32))) + (((((x0 - (((x0.toUInt32 >>> ((1 : Int32).toUInt32 &&& Int32.toUInt32 31)).toInt32) &&& (1431655765 : Int32))) &&& (858993459 : Int32)) + ((((x0 - (((x0.toUInt32 >>> ((1 : Int32).toUInt32 &&& Int32.toUInt32 31)).toInt32) &&& (1431655765 : Int32))).toUInt32 >>> ((2 : Int32).toUInt32 &&& Int32.toUInt32 31)).toInt32) &&& (858993459 : Int32))).toUInt32 >>> ((4 : Int32).toUInt32 &&& Int32.toUInt32 31)).toInt32)) &&& (252645135 : Int32)) + (((((((x0 - (((x0.toUInt32 >>> ((1 : Int32).toUInt32 &&& Int32.toUInt32 31)).toInt32) &&& (1431655765 : Int32))) &&& (858993459 : Int32)) + ((((x0 - (((x0.toUInt32 >>> ((1 : Int32).toUInt32 &&& Int32.toUInt32 31)).toInt32) &&& (1431655765 : Int32))).toUInt32 >>> ((2 : Int32).toUInt32 &&& Int32.toUInt32 31)).toInt32) &&& (858993459 : Int32))) + (((((x0 - (((x0.toUInt32 >>> ((1 : Int32).toUInt32 &&& Int32.toUInt32 31)).toInt32) &&& (1431655765 : Int32))) &&& (858993459 : Int32)) + ((((x0 - (((x0.toUInt32 >>> ((1 : Int32).toUInt32 &&& Int32.toUInt32 31)).toInt32) &&& (1431655765 : Int32))).toUInt32 >>> ((2 : Int32).toUInt32 &&& Int32.toUInt32 31)).toInt32) &&& (858993459 : Int32))).toUInt32 >>> ((4 : Int32).toUInt32 &&& Int32.toUInt32 31)).toInt32)) &&& (252645135 : Int32)).toUInt32 >>> ((8 : Int32).toUInt32 &&& Int32.toUInt32 31)).toInt32)))]) C.1 C.2.1 dJ6_bitCount_0f7a4_40 rfl hl (by decide) rfl (fun ls hl => ?_)
  refine lv_iload_n C.1 C.2.1 dJ6_bitCount_0f7a4_41 rfl (lv_at hl 0 rfl) ?_
  refine lv_iload_n C.1 C.2.1 dJ6_bitCount_0f7a4_42 rfl (lv_at hl 0 rfl) ?_
  refine lv_bipush (v := (16 : Int32)) C.1 C.2.1 dJ6_bitCount_0f7a4_43 (by decide) ?_
  refine lv_iushr C.1 C.2.1 dJ6_bitCount_0f7a4_45 rfl ?_
  refine lv_iadd C.1 C.2.1 dJ6_bitCount_0f7a4_46 ?_
  refine lv_istore_n (lv' := [(0, .int (((((((x0 - (((x0.toUInt32 >>> ((1 : Int32).toUInt32 &&& Int32.toUInt32 31)).toInt32) &&& (1431655765 : Int32))) &&& (858993459 : Int32)) + ((((x0 - (((x0.toUInt32 >>> ((1 : Int32).toUInt32 &&& Int32.toUInt32 31)).toInt32) &&& (1431655765 : Int32))).toUInt32 >>> ((2 : Int32).toUInt32 &&& Int32.toUInt32 31)).toInt32) &&& (858993459 : Int32))) + (((((x0 - (((x0.toUInt32 >>> ((1 : Int32).toUInt32 &&& Int32.toUInt32 31)).toInt32) &&& (1431655765 : Int32))) &&& (858993459 : Int32)) + ((((x0 - (((x0.toUInt32 >>> ((1 : Int32).toUInt32 &&& Int32.toUInt32 31)).toInt32) &&& (1431655765 : Int32))).toUInt32 >>> ((2 : Int32).toUInt32 &&& Int32.toUInt32 31)).toInt32) &&& (858993459 : Int32))).toUInt32 >>> ((4 : Int32).toUInt32 &&& Int32.toUInt32 31)).toInt32)) &&& (252645135 : Int32)) + (((((((x0 - (((x0.toUInt32 >>> ((1 : Int32).toUInt32 &&& Int32.toUInt32 31)).toInt32) &&& (1431655765 : Int32))) &&& (858993459 : Int32)) + ((((x0 - (((x0.toUInt32 >>> ((1 : Int32).toUInt32 &&& Int32.toUInt32 31)).toInt32) &&& (1431655765 : Int32))).toUInt32 >>> ((2 : Int32).toUInt32 &&& Int32.toUInt32 31)).toInt32) &&& (858993459 : Int32))) + (((((x0 - (((x0.toUInt32 >>> ((1 : Int32).toUInt32 &&& Int32.toUInt32 31)).toInt32) &&& (1431655765 : Int32))) &&& (858993459 : Int32)) + ((((x0 - (((x0.toUInt32 >>> ((1 : Int32).toUInt32 &&& Int32.toUInt32 31)).toInt32) &&& (1431655765 : Int32))).toUInt32 >>> ((2 : Int32).toUInt32 &&& Int32.toUInt32 31)).toInt32) &&& (858993459 : Int32))).toUInt32 >>> ((4 : Int32).toUInt32 &&& Int32.toUInt32 31)).toInt32)) &&& (252645135 : Int32)).toUInt32 >>> ((8 : Int32).toUInt32 &&& Int32.toUInt32 31)).toInt32)) + ((((((((x0 - (((x0.toUInt32 >>> ((1 : Int32).toUInt32 &&& Int32.toUInt32 31)).toInt32) &&& (1431655765 : Int32))) &&& (858993459 : Int32)) + ((((x0 - (((x0.toUInt32 >>> ((1 : Int32).toUInt32 &&& Int32.toUInt32 31)).toInt32) &&& (1431655765 : Int32))).toUInt32 >>> ((2 : Int32).toUInt32 &&& Int32.toUInt32 31)).toInt32) &&& (858993459 : Int32))) + (((((x0 - (((x0.toUInt32 >>> ((1 : Int32).toUInt32 &&& Int32.toUInt32 31)).toInt32) &&& (1431655765 : Int32))) &&& (858993459 : Int32)) + ((((x0 - (((x0.toUInt32 >>> ((1 : Int32).toUInt32 &&& Int32.toUInt32 31)).toInt32) &&& (1431655765 : Int32))).toUInt32 >>> ((2 : Int32).toUInt32 &&& Int32.toUInt32 31)).toInt32) &&& (858993459 : Int32))).toUInt32 >>> ((4 : Int32).toUInt32 &&& Int32.toUInt32 31)).toInt32)) &&& (252645135 : Int32)) + (((((((x0 - (((x0.toUInt32 >>> ((1 : Int32).toUInt32 &&& Int32.toUInt32 31)).toInt32) &&& (1431655765 : Int32))) &&& (858993459 : Int32)) + ((((x0 - (((x0.toUInt32 >>> ((1 : Int32).toUInt32 &&& Int32.toUInt32 31)).toInt32) &&& (1431655765 : Int32))).toUInt32 >>> ((2 : Int32).toUInt32 &&& Int32.toUInt32 31)).toInt32) &&& (858993459 : Int32))) + (((((x0 - (((x0.toUInt32 >>> ((1 : Int32).toUInt32 &&& Int32.toUInt32 31)).toInt32) &&& (1431655765 : Int32))) &&& (858993459 : Int32)) + ((((x0 - (((x0.toUInt32 >>> ((1 : Int32).toUInt32 &&& Int32.toUInt32 31)).toInt32) &&& (1431655765 : Int32))).toUInt32 >>> ((2 : Int32).toUInt32 &&& Int32.toUInt32 31)).toInt32) &&& (858993459 : Int32))).toUInt32 >>> ((4 : Int32).toUInt32 &&& Int32.toUInt32 31)).toInt32)) &&& (252645135 : Int32)).toUInt32 >>> ((8 : Int32).toUInt32 &&& Int32.toUInt32 31)).toInt32)).toUInt32 >>> ((16 : Int32).toUInt32 &&& Int32.toUInt32 31)).toInt32)))]) C.1 C.2.1 dJ6_bitCount_0f7a4_47 rfl hl (by decide) rfl (fun ls hl => ?_)
  refine lv_iload_n C.1 C.2.1 dJ6_bitCount_0f7a4_48 rfl (lv_at hl 0 rfl) ?_
  refine lv_bipush (v := (63 : Int32)) C.1 C.2.1 dJ6_bitCount_0f7a4_49 (by decide) ?_
  refine lv_iand C.1 C.2.1 dJ6_bitCount_0f7a4_51 ?_
  cases hD
  exact ri_X C hr hP hS dJ6_bitCount_0f7a4_52
abbrev rm_X6_rightFromOtherEnd : Room := { frames := 1, cells := 0, slots := 0, locals := 20 }
set_option maxHeartbeats 4000000 in
set_option maxRecDepth 100000 in
theorem c_X6_rightFromOtherEnd (l : Launch) (g : Gx) (sz : Nat) (σ : St) (x1 : Int32) (x2 : Int32) {r : Int32} (hD : D_X6_rightFromOtherEnd σ x1 x2 = some r) : Met l yX6_rightFromOtherEnd (Cond.code yX6_rightFromOtherEnd cX6_rightFromOtherEnd 3 (some .int) :: tb) rm_X6_rightFromOtherEnd (PcX g [.ref (g.2.2 20), .int x1, .int x2] σ sz) (QiX g (AX g sz) r σ) 0 0 (AX g sz) := by
  refine Met.ofW (cc := cX6_rightFromOtherEnd) (maxL := 3) (ret := some .int) (by decide) rfl ?_
  intro p e s m args below meth c s₁ B hml hv
  have hv0 := hv
  obtain ⟨rfl, hsz, hP, -⟩ := hv
  subst hsz
  have C : CX g (AX g s.heap.size) p s m _ meth c cX6_rightFromOtherEnd 3 RX6 := CX.of B hml (fun w h => List.mem_cons_of_mem _ h) rfl hv0
  have hr := B.returns
  have hS : va_S (AX g s.heap.size) s.heap s.heap [] := va_S.rf
  have hl := lv_entry ([.ref (g.2.2 20), .int x1, .int x2]) (n := 3) (Nat.le_of_ble_eq_true rfl)
  rw [lg_entry_eq]
  generalize (lg_sl ([.ref (g.2.2 20), .int x1, .int x2]) ++ List.replicate (3 - (lg_sl ([.ref (g.2.2 20), .int x1, .int x2])).length) Slot.unset).toArray = ls at hl ⊢
  have hl : lv_has ls 3 [(0, .ref (g.2.2 20)), (1, .int x1), (2, .int x2)] := hl
  obtain ⟨H, hH⟩ : ∃ H, H = s.heap := ⟨_, rfl⟩
  have hP : va_P g.1 vwCl (wX g σ) H := by rw [hH]; exact hP
  have hS : va_S (AX g s.heap.size) s.heap H [] := by rw [hH]; exact hS
  refine wH hH ?_
  obtain ⟨locs, hlo⟩ : ∃ locs : List Loc, locs = [] := ⟨_, rfl⟩
  rw [← hlo] at hS
  refine wL hlo ?_
  unfold D_X6_rightFromOtherEnd at hD
  refine lv_aload_n C.1 C.2.1 dX6_rightFromOtherEnd_0 rfl (lv_at hl 0 rfl) ?_
  refine gf_X6_15_20 C hP dX6_rightFromOtherEnd_1 ?_
  refine lv_iload_n C.1 C.2.1 dX6_rightFromOtherEnd_4 rfl (lv_at hl 1 rfl) ?_
  obtain ⟨hi1, hD⟩ := gi_some hD
  refine iaX C hP 22 rfl hi1 dX6_rightFromOtherEnd_5 ?_
  refine lv_aload_n C.1 C.2.1 dX6_rightFromOtherEnd_6 rfl (lv_at hl 0 rfl) ?_
  refine gf_X6_9_20 C hP dX6_rightFromOtherEnd_7 ?_
  refine lv_iload_n C.1 C.2.1 dX6_rightFromOtherEnd_10 rfl (lv_at hl 2 rfl) ?_
  obtain ⟨hi2, hD⟩ := gi_some hD
  refine iaX C hP 21 rfl hi2 dX6_rightFromOtherEnd_11 ?_
  refine lv_iand C.1 C.2.1 dX6_rightFromOtherEnd_12 ?_
  obtain ⟨r3, hd3, hD⟩ := bp_some hD
  refine kSi_X (As := [.int ((σ 22 x1.toNatClampNeg) &&& (σ 21 x2.toNatClampNeg))]) (rest := []) C (c_J6_bitCount_0f7a4 l g H.size σ ((σ 22 x1.toNatClampNeg) &&& (σ 21 x2.toNatClampNeg)) hd3) kw_X6_42 ⟨rfl, rfl⟩ ⟨Nat.le_of_ble_eq_true rfl, Nat.le_of_ble_eq_true rfl⟩ ks_J6_bitCount_0f7a4 rfl hl.1 (Nat.le_of_ble_eq_true rfl) ⟨Nat.zero_le _, Nat.zero_le _⟩ dX6_rightFromOtherEnd_13 hP hS rfl (fun H locs hP hS => ?_)
  cases hD
  exact ri_X C hr hP hS dX6_rightFromOtherEnd_16
abbrev rm_X6_alike : Room := { frames := 1, cells := 0, slots := 0, locals := 20 }
set_option maxHeartbeats 4000000 in
set_option maxRecDepth 100000 in
theorem c_X6_alike (l : Launch) (g : Gx) (sz : Nat) (σ : St) (x1 : Int32) (x2 : Int32) {r : Int32} (hD : D_X6_alike σ x1 x2 = some r) : Met l yX6_alike (Cond.code yX6_alike cX6_alike 3 (some .int) :: tb) rm_X6_alike (PcX g [.ref (g.2.2 20), .int x1, .int x2] σ sz) (QiX g (AX g sz) r σ) 0 0 (AX g sz) := by
  refine Met.ofW (cc := cX6_alike) (maxL := 3) (ret := some .int) (by decide) rfl ?_
  intro p e s m args below meth c s₁ B hml hv
  have hv0 := hv
  obtain ⟨rfl, hsz, hP, -⟩ := hv
  subst hsz
  have C : CX g (AX g s.heap.size) p s m _ meth c cX6_alike 3 RX6 := CX.of B hml (fun w h => List.mem_cons_of_mem _ h) rfl hv0
  have hr := B.returns
  have hS : va_S (AX g s.heap.size) s.heap s.heap [] := va_S.rf
  have hl := lv_entry ([.ref (g.2.2 20), .int x1, .int x2]) (n := 3) (Nat.le_of_ble_eq_true rfl)
  rw [lg_entry_eq]
  generalize (lg_sl ([.ref (g.2.2 20), .int x1, .int x2]) ++ List.replicate (3 - (lg_sl ([.ref (g.2.2 20), .int x1, .int x2])).length) Slot.unset).toArray = ls at hl ⊢
  have hl : lv_has ls 3 [(0, .ref (g.2.2 20)), (1, .int x1), (2, .int x2)] := hl
  obtain ⟨H, hH⟩ : ∃ H, H = s.heap := ⟨_, rfl⟩
  have hP : va_P g.1 vwCl (wX g σ) H := by rw [hH]; exact hP
  have hS : va_S (AX g s.heap.size) s.heap H [] := by rw [hH]; exact hS
  refine wH hH ?_
  obtain ⟨locs, hlo⟩ : ∃ locs : List Loc, locs = [] := ⟨_, rfl⟩
  rw [← hlo] at hS
  refine wL hlo ?_
  unfold D_X6_alike at hD
  refine lv_aload_n C.1 C.2.1 dX6_alike_0 rfl (lv_at hl 0 rfl) ?_
  refine gf_X6_18_20 C hP dX6_alike_1 ?_
  refine lv_iload_n C.1 C.2.1 dX6_alike_4 rfl (lv_at hl 1 rfl) ?_
  obtain ⟨hi1, hD⟩ := gi_some hD
  refine iaX C hP 23 rfl hi1 dX6_alike_5 ?_
  refine lv_aload_n C.1 C.2.1 dX6_alike_6 rfl (lv_at hl 0 rfl) ?_
  refine gf_X6_18_20 C hP dX6_alike_7 ?_
  refine lv_iload_n C.1 C.2.1 dX6_alike_10 rfl (lv_at hl 2 rfl) ?_
  obtain ⟨hi2, hD⟩ := gi_some hD
  refine iaX C hP 23 rfl hi2 dX6_alike_11 ?_
  refine lv_iand C.1 C.2.1 dX6_alike_12 ?_
  obtain ⟨r3, hd3, hD⟩ := bp_some hD
  refine kSi_X (As := [.int ((σ 23 x1.toNatClampNeg) &&& (σ 23 x2.toNatClampNeg))]) (rest := []) C (c_J6_bitCount_0f7a4 l g H.size σ ((σ 23 x1.toNatClampNeg) &&& (σ 23 x2.toNatClampNeg)) hd3) kw_X6_42 ⟨rfl, rfl⟩ ⟨Nat.le_of_ble_eq_true rfl, Nat.le_of_ble_eq_true rfl⟩ ks_J6_bitCount_0f7a4 rfl hl.1 (Nat.le_of_ble_eq_true rfl) ⟨Nat.zero_le _, Nat.zero_le _⟩ dX6_alike_13 hP hS rfl (fun H locs hP hS => ?_)
  cases hD
  exact ri_X C hr hP hS dX6_alike_16
abbrev rm_X6_right : Room := { frames := 1, cells := 0, slots := 0, locals := 20 }
set_option maxHeartbeats 4000000 in
set_option maxRecDepth 100000 in
theorem c_X6_right (l : Launch) (g : Gx) (sz : Nat) (σ : St) (x1 : Int32) (x2 : Int32) {r : Int32} (hD : D_X6_right σ x1 x2 = some r) : Met l yX6_right (Cond.code yX6_right cX6_right 3 (some .int) :: tb) rm_X6_right (PcX g [.ref (g.2.2 20), .int x1, .int x2] σ sz) (QiX g (AX g sz) r σ) 0 0 (AX g sz) := by
  refine Met.ofW (cc := cX6_right) (maxL := 3) (ret := some .int) (by decide) rfl ?_
  intro p e s m args below meth c s₁ B hml hv
  have hv0 := hv
  obtain ⟨rfl, hsz, hP, -⟩ := hv
  subst hsz
  have C : CX g (AX g s.heap.size) p s m _ meth c cX6_right 3 RX6 := CX.of B hml (fun w h => List.mem_cons_of_mem _ h) rfl hv0
  have hr := B.returns
  have hS : va_S (AX g s.heap.size) s.heap s.heap [] := va_S.rf
  have hl := lv_entry ([.ref (g.2.2 20), .int x1, .int x2]) (n := 3) (Nat.le_of_ble_eq_true rfl)
  rw [lg_entry_eq]
  generalize (lg_sl ([.ref (g.2.2 20), .int x1, .int x2]) ++ List.replicate (3 - (lg_sl ([.ref (g.2.2 20), .int x1, .int x2])).length) Slot.unset).toArray = ls at hl ⊢
  have hl : lv_has ls 3 [(0, .ref (g.2.2 20)), (1, .int x1), (2, .int x2)] := hl
  obtain ⟨H, hH⟩ : ∃ H, H = s.heap := ⟨_, rfl⟩
  have hP : va_P g.1 vwCl (wX g σ) H := by rw [hH]; exact hP
  have hS : va_S (AX g s.heap.size) s.heap H [] := by rw [hH]; exact hS
  refine wH hH ?_
  obtain ⟨locs, hlo⟩ : ∃ locs : List Loc, locs = [] := ⟨_, rfl⟩
  rw [← hlo] at hS
  refine wL hlo ?_
  unfold D_X6_right at hD
  refine lv_aload_n C.1 C.2.1 dX6_right_0 rfl (lv_at hl 0 rfl) ?_
  refine gf_X6_9_20 C hP dX6_right_1 ?_
  refine lv_iload_n C.1 C.2.1 dX6_right_4 rfl (lv_at hl 1 rfl) ?_
  obtain ⟨hi1, hD⟩ := gi_some hD
  refine iaX C hP 21 rfl hi1 dX6_right_5 ?_
  refine lv_aload_n C.1 C.2.1 dX6_right_6 rfl (lv_at hl 0 rfl) ?_
  refine gf_X6_9_20 C hP dX6_right_7 ?_
  refine lv_iload_n C.1 C.2.1 dX6_right_10 rfl (lv_at hl 2 rfl) ?_
  obtain ⟨hi2, hD⟩ := gi_some hD
  refine iaX C hP 21 rfl hi2 dX6_right_11 ?_
  refine lv_iand C.1 C.2.1 dX6_right_12 ?_
  obtain ⟨r3, hd3, hD⟩ := bp_some hD
  refine kSi_X (As := [.int ((σ 21 x1.toNatClampNeg) &&& (σ 21 x2.toNatClampNeg))]) (rest := []) C (c_J6_bitCount_0f7a4 l g H.size σ ((σ 21 x1.toNatClampNeg) &&& (σ 21 x2.toNatClampNeg)) hd3) kw_X6_42 ⟨rfl, rfl⟩ ⟨Nat.le_of_ble_eq_true rfl, Nat.le_of_ble_eq_true rfl⟩ ks_J6_bitCount_0f7a4 rfl hl.1 (Nat.le_of_ble_eq_true rfl) ⟨Nat.zero_le _, Nat.zero_le _⟩ dX6_right_13 hP hS rfl (fun H locs hP hS => ?_)
  cases hD
  exact ri_X C hr hP hS dX6_right_16
abbrev rm_X2_plainWord : Room := { frames := 0, cells := 0, slots := 0, locals := 0 }
set_option maxHeartbeats 4000000 in
set_option maxRecDepth 100000 in
theorem c_X2_plainWord (l : Launch) (g : Gx) (sz : Nat) (σ : St) (x0 : Int32) (x1 : Int32) {r : Int32} (hD : D_X2_plainWord x0 x1 = some r) : Met l yX2_plainWord (Cond.code yX2_plainWord cX2_plainWord 2 (some .int) :: tb) rm_X2_plainWord (PcX g [.int x0, .int x1] σ sz) (QiX g (AX g sz) r σ) 0 0 (AX g sz) := by
  refine Met.ofW (cc := cX2_plainWord) (maxL := 2) (ret := some .int) (by decide) rfl ?_
  intro p e s m args below meth c s₁ B hml hv
  have hv0 := hv
  obtain ⟨rfl, hsz, hP, -⟩ := hv
  subst hsz
  have C : CX g (AX g s.heap.size) p s m _ meth c cX2_plainWord 2 RX2 := CX.of B hml (fun w h => List.mem_cons_of_mem _ h) rfl hv0
  have hr := B.returns
  have hS : va_S (AX g s.heap.size) s.heap s.heap [] := va_S.rf
  have hl := lv_entry ([.int x0, .int x1]) (n := 2) (Nat.le_of_ble_eq_true rfl)
  rw [lg_entry_eq]
  generalize (lg_sl ([.int x0, .int x1]) ++ List.replicate (2 - (lg_sl ([.int x0, .int x1])).length) Slot.unset).toArray = ls at hl ⊢
  have hl : lv_has ls 2 [(0, .int x0), (1, .int x1)] := hl
  obtain ⟨H, hH⟩ : ∃ H, H = s.heap := ⟨_, rfl⟩
  have hP : va_P g.1 vwCl (wX g σ) H := by rw [hH]; exact hP
  have hS : va_S (AX g s.heap.size) s.heap H [] := by rw [hH]; exact hS
  refine wH hH ?_
  obtain ⟨locs, hlo⟩ : ∃ locs : List Loc, locs = [] := ⟨_, rfl⟩
  rw [← hlo] at hS
  refine wL hlo ?_
  unfold D_X2_plainWord at hD
  refine lv_bipush (v := (10 : Int32)) C.1 C.2.1 dX2_plainWord_0 (by decide) ?_
  refine lv_iload_n C.1 C.2.1 dX2_plainWord_2 rfl (lv_at hl 0 rfl) ?_
  refine lv_imul C.1 C.2.1 dX2_plainWord_3 ?_
  refine lv_iload_n C.1 C.2.1 dX2_plainWord_4 rfl (lv_at hl 1 rfl) ?_
  refine lv_iadd C.1 C.2.1 dX2_plainWord_5 ?_
  refine lv_iload_n C.1 C.2.1 dX2_plainWord_6 rfl (lv_at hl 0 rfl) ?_
  refine lv_isub C.1 C.2.1 dX2_plainWord_7 ?_
  cases hD
  exact ri_X C hr hP hS dX2_plainWord_8
abbrev rm_X2_word : Room := { frames := 2, cells := 0, slots := 0, locals := 42 }
set_option maxHeartbeats 4000000 in
set_option maxRecDepth 100000 in
theorem c_X2_word (l : Launch) (g : Gx) (sz : Nat) (σ : St) (x2 : Int32) (x3 : Int32) {r : Int32} (hD : D_X2_word σ x2 x3 = some r) : Met l yX2_word (Cond.code yX2_word cX2_word 4 (some .int) :: tb) rm_X2_word (PcX g [.ref (g.2.2 4), .ref (g.2.2 20), .int x2, .int x3] σ sz) (QiX g (AX g sz) r σ) 0 0 (AX g sz) := by
  refine Met.ofW (cc := cX2_word) (maxL := 4) (ret := some .int) (by decide) rfl ?_
  intro p e s m args below meth c s₁ B hml hv
  have hv0 := hv
  obtain ⟨rfl, hsz, hP, -⟩ := hv
  subst hsz
  have C : CX g (AX g s.heap.size) p s m _ meth c cX2_word 4 RX2 := CX.of B hml (fun w h => List.mem_cons_of_mem _ h) rfl hv0
  have hr := B.returns
  have hS : va_S (AX g s.heap.size) s.heap s.heap [] := va_S.rf
  have hl := lv_entry ([.ref (g.2.2 4), .ref (g.2.2 20), .int x2, .int x3]) (n := 4) (Nat.le_of_ble_eq_true rfl)
  rw [lg_entry_eq]
  generalize (lg_sl ([.ref (g.2.2 4), .ref (g.2.2 20), .int x2, .int x3]) ++ List.replicate (4 - (lg_sl ([.ref (g.2.2 4), .ref (g.2.2 20), .int x2, .int x3])).length) Slot.unset).toArray = ls at hl ⊢
  have hl : lv_has ls 4 [(0, .ref (g.2.2 4)), (1, .ref (g.2.2 20)), (2, .int x2), (3, .int x3)] := hl
  obtain ⟨H, hH⟩ : ∃ H, H = s.heap := ⟨_, rfl⟩
  have hP : va_P g.1 vwCl (wX g σ) H := by rw [hH]; exact hP
  have hS : va_S (AX g s.heap.size) s.heap H [] := by rw [hH]; exact hS
  refine wH hH ?_
  obtain ⟨locs, hlo⟩ : ∃ locs : List Loc, locs = [] := ⟨_, rfl⟩
  rw [← hlo] at hS
  refine wL hlo ?_
  unfold D_X2_word at hD
  refine lv_aload_n C.1 C.2.1 dX2_word_0 rfl (lv_at hl 1 rfl) ?_
  refine lv_iload_n C.1 C.2.1 dX2_word_1 rfl (lv_at hl 2 rfl) ?_
  refine lv_iload_n C.1 C.2.1 dX2_word_2 rfl (lv_at hl 3 rfl) ?_
  obtain ⟨r1, hd1, hD⟩ := bp_some hD
  refine kVi_X (As := [.int x2, .int x3]) (rest := []) (ci := 6) (q0 := 20) C (c_X6_right l g H.size σ x2 x3 hd1) kw_X2_7 ⟨rfl, rfl⟩ ⟨Nat.le_of_ble_eq_true rfl, Nat.le_of_ble_eq_true rfl⟩ kv_X6_right rfl rfl rfl hl.1 (Nat.le_of_ble_eq_true rfl) ⟨Nat.zero_le _, Nat.zero_le _⟩ dX2_word_3 hP hS rfl (fun H locs hP hS => ?_)
  refine lv_aload_n C.1 C.2.1 dX2_word_6 rfl (lv_at hl 1 rfl) ?_
  refine lv_iload_n C.1 C.2.1 dX2_word_7 rfl (lv_at hl 2 rfl) ?_
  refine lv_iload_n C.1 C.2.1 dX2_word_8 rfl (lv_at hl 3 rfl) ?_
  obtain ⟨r2, hd2, hD⟩ := bp_some hD
  refine kVi_X (As := [.int x2, .int x3]) (rest := [.int r1]) (ci := 6) (q0 := 20) C (c_X6_alike l g H.size σ x2 x3 hd2) kw_X2_13 ⟨rfl, rfl⟩ ⟨Nat.le_of_ble_eq_true rfl, Nat.le_of_ble_eq_true rfl⟩ kv_X6_alike rfl rfl rfl hl.1 (Nat.le_of_ble_eq_true rfl) ⟨Nat.zero_le _, Nat.zero_le _⟩ dX2_word_9 hP hS rfl (fun H locs hP hS => ?_)
  obtain ⟨r3, hd3, hD⟩ := bp_some hD
  refine kSi_X (As := [.int r1, .int r2]) (rest := []) C (c_X2_plainWord l g H.size σ r1 r2 hd3) kw_X2_16 ⟨rfl, rfl⟩ ⟨Nat.le_of_ble_eq_true rfl, Nat.le_of_ble_eq_true rfl⟩ ks_X2_plainWord rfl hl.1 (Nat.le_of_ble_eq_true rfl) ⟨Nat.zero_le _, Nat.zero_le _⟩ dX2_word_12 hP hS rfl (fun H locs hP hS => ?_)
  cases hD
  exact ri_X C hr hP hS dX2_word_15
abbrev rm_X7_word : Room := { frames := 2, cells := 0, slots := 0, locals := 42 }
set_option maxHeartbeats 4000000 in
set_option maxRecDepth 100000 in
theorem c_X7_word (l : Launch) (g : Gx) (sz : Nat) (σ : St) (x2 : Int32) (x3 : Int32) {r : Int32} (hD : D_X7_word σ x2 x3 = some r) : Met l yX7_word (Cond.code yX7_word cX7_word 4 (some .int) :: tb) rm_X7_word (PcX g [.ref (g.2.2 5), .ref (g.2.2 20), .int x2, .int x3] σ sz) (QiX g (AX g sz) r σ) 0 0 (AX g sz) := by
  refine Met.ofW (cc := cX7_word) (maxL := 4) (ret := some .int) (by decide) rfl ?_
  intro p e s m args below meth c s₁ B hml hv
  have hv0 := hv
  obtain ⟨rfl, hsz, hP, -⟩ := hv
  subst hsz
  have C : CX g (AX g s.heap.size) p s m _ meth c cX7_word 4 RX7 := CX.of B hml (fun w h => List.mem_cons_of_mem _ h) rfl hv0
  have hr := B.returns
  have hS : va_S (AX g s.heap.size) s.heap s.heap [] := va_S.rf
  have hl := lv_entry ([.ref (g.2.2 5), .ref (g.2.2 20), .int x2, .int x3]) (n := 4) (Nat.le_of_ble_eq_true rfl)
  rw [lg_entry_eq]
  generalize (lg_sl ([.ref (g.2.2 5), .ref (g.2.2 20), .int x2, .int x3]) ++ List.replicate (4 - (lg_sl ([.ref (g.2.2 5), .ref (g.2.2 20), .int x2, .int x3])).length) Slot.unset).toArray = ls at hl ⊢
  have hl : lv_has ls 4 [(0, .ref (g.2.2 5)), (1, .ref (g.2.2 20)), (2, .int x2), (3, .int x3)] := hl
  obtain ⟨H, hH⟩ : ∃ H, H = s.heap := ⟨_, rfl⟩
  have hP : va_P g.1 vwCl (wX g σ) H := by rw [hH]; exact hP
  have hS : va_S (AX g s.heap.size) s.heap H [] := by rw [hH]; exact hS
  refine wH hH ?_
  obtain ⟨locs, hlo⟩ : ∃ locs : List Loc, locs = [] := ⟨_, rfl⟩
  rw [← hlo] at hS
  refine wL hlo ?_
  unfold D_X7_word at hD
  refine lv_aload_n C.1 C.2.1 dX7_word_0 rfl (lv_at hl 1 rfl) ?_
  refine lv_iload_n C.1 C.2.1 dX7_word_1 rfl (lv_at hl 2 rfl) ?_
  refine lv_iload_n C.1 C.2.1 dX7_word_2 rfl (lv_at hl 3 rfl) ?_
  obtain ⟨r1, hd1, hD⟩ := bp_some hD
  refine kVi_X (As := [.int x2, .int x3]) (rest := []) (ci := 6) (q0 := 20) C (c_X6_alike l g H.size σ x2 x3 hd1) kw_X7_7 ⟨rfl, rfl⟩ ⟨Nat.le_of_ble_eq_true rfl, Nat.le_of_ble_eq_true rfl⟩ kv_X6_alike rfl rfl rfl hl.1 (Nat.le_of_ble_eq_true rfl) ⟨Nat.zero_le _, Nat.zero_le _⟩ dX7_word_3 hP hS rfl (fun H locs hP hS => ?_)
  cases hD
  exact ri_X C hr hP hS dX7_word_6
abbrev rm_X8_word : Room := { frames := 2, cells := 0, slots := 0, locals := 42 }
set_option maxHeartbeats 4000000 in
set_option maxRecDepth 100000 in
theorem c_X8_word (l : Launch) (g : Gx) (sz : Nat) (σ : St) (x2 : Int32) (x3 : Int32) {r : Int32} (hD : D_X8_word σ x2 x3 = some r) : Met l yX8_word (Cond.code yX8_word cX8_word 4 (some .int) :: tb) rm_X8_word (PcX g [.ref (g.2.2 6), .ref (g.2.2 20), .int x2, .int x3] σ sz) (QiX g (AX g sz) r σ) 0 0 (AX g sz) := by
  refine Met.ofW (cc := cX8_word) (maxL := 4) (ret := some .int) (by decide) rfl ?_
  intro p e s m args below meth c s₁ B hml hv
  have hv0 := hv
  obtain ⟨rfl, hsz, hP, -⟩ := hv
  subst hsz
  have C : CX g (AX g s.heap.size) p s m _ meth c cX8_word 4 RX8 := CX.of B hml (fun w h => List.mem_cons_of_mem _ h) rfl hv0
  have hr := B.returns
  have hS : va_S (AX g s.heap.size) s.heap s.heap [] := va_S.rf
  have hl := lv_entry ([.ref (g.2.2 6), .ref (g.2.2 20), .int x2, .int x3]) (n := 4) (Nat.le_of_ble_eq_true rfl)
  rw [lg_entry_eq]
  generalize (lg_sl ([.ref (g.2.2 6), .ref (g.2.2 20), .int x2, .int x3]) ++ List.replicate (4 - (lg_sl ([.ref (g.2.2 6), .ref (g.2.2 20), .int x2, .int x3])).length) Slot.unset).toArray = ls at hl ⊢
  have hl : lv_has ls 4 [(0, .ref (g.2.2 6)), (1, .ref (g.2.2 20)), (2, .int x2), (3, .int x3)] := hl
  obtain ⟨H, hH⟩ : ∃ H, H = s.heap := ⟨_, rfl⟩
  have hP : va_P g.1 vwCl (wX g σ) H := by rw [hH]; exact hP
  have hS : va_S (AX g s.heap.size) s.heap H [] := by rw [hH]; exact hS
  refine wH hH ?_
  obtain ⟨locs, hlo⟩ : ∃ locs : List Loc, locs = [] := ⟨_, rfl⟩
  rw [← hlo] at hS
  refine wL hlo ?_
  unfold D_X8_word at hD
  refine lv_aload_n C.1 C.2.1 dX8_word_0 rfl (lv_at hl 1 rfl) ?_
  refine lv_iload_n C.1 C.2.1 dX8_word_1 rfl (lv_at hl 2 rfl) ?_
  refine lv_iload_n C.1 C.2.1 dX8_word_2 rfl (lv_at hl 3 rfl) ?_
  obtain ⟨r1, hd1, hD⟩ := bp_some hD
  refine kVi_X (As := [.int x2, .int x3]) (rest := []) (ci := 6) (q0 := 20) C (c_X6_right l g H.size σ x2 x3 hd1) kw_X8_7 ⟨rfl, rfl⟩ ⟨Nat.le_of_ble_eq_true rfl, Nat.le_of_ble_eq_true rfl⟩ kv_X6_right rfl rfl rfl hl.1 (Nat.le_of_ble_eq_true rfl) ⟨Nat.zero_le _, Nat.zero_le _⟩ dX8_word_3 hP hS rfl (fun H locs hP hS => ?_)
  cases hD
  exact ri_X C hr hP hS dX8_word_6
abbrev rm_X10_word : Room := { frames := 2, cells := 0, slots := 0, locals := 42 }
set_option maxHeartbeats 4000000 in
set_option maxRecDepth 100000 in
theorem c_X10_word (l : Launch) (g : Gx) (sz : Nat) (σ : St) (x2 : Int32) (x3 : Int32) {r : Int32} (hD : D_X10_word σ x2 x3 = some r) : Met l yX10_word (Cond.code yX10_word cX10_word 4 (some .int) :: tb) rm_X10_word (PcX g [.ref (g.2.2 7), .ref (g.2.2 20), .int x2, .int x3] σ sz) (QiX g (AX g sz) r σ) 0 0 (AX g sz) := by
  refine Met.ofW (cc := cX10_word) (maxL := 4) (ret := some .int) (by decide) rfl ?_
  intro p e s m args below meth c s₁ B hml hv
  have hv0 := hv
  obtain ⟨rfl, hsz, hP, -⟩ := hv
  subst hsz
  have C : CX g (AX g s.heap.size) p s m _ meth c cX10_word 4 RX10 := CX.of B hml (fun w h => List.mem_cons_of_mem _ h) rfl hv0
  have hr := B.returns
  have hS : va_S (AX g s.heap.size) s.heap s.heap [] := va_S.rf
  have hl := lv_entry ([.ref (g.2.2 7), .ref (g.2.2 20), .int x2, .int x3]) (n := 4) (Nat.le_of_ble_eq_true rfl)
  rw [lg_entry_eq]
  generalize (lg_sl ([.ref (g.2.2 7), .ref (g.2.2 20), .int x2, .int x3]) ++ List.replicate (4 - (lg_sl ([.ref (g.2.2 7), .ref (g.2.2 20), .int x2, .int x3])).length) Slot.unset).toArray = ls at hl ⊢
  have hl : lv_has ls 4 [(0, .ref (g.2.2 7)), (1, .ref (g.2.2 20)), (2, .int x2), (3, .int x3)] := hl
  obtain ⟨H, hH⟩ : ∃ H, H = s.heap := ⟨_, rfl⟩
  have hP : va_P g.1 vwCl (wX g σ) H := by rw [hH]; exact hP
  have hS : va_S (AX g s.heap.size) s.heap H [] := by rw [hH]; exact hS
  refine wH hH ?_
  obtain ⟨locs, hlo⟩ : ∃ locs : List Loc, locs = [] := ⟨_, rfl⟩
  rw [← hlo] at hS
  refine wL hlo ?_
  unfold D_X10_word at hD
  refine lv_aload_n C.1 C.2.1 dX10_word_0 rfl (lv_at hl 1 rfl) ?_
  refine lv_iload_n C.1 C.2.1 dX10_word_1 rfl (lv_at hl 2 rfl) ?_
  refine lv_iload_n C.1 C.2.1 dX10_word_2 rfl (lv_at hl 3 rfl) ?_
  obtain ⟨r1, hd1, hD⟩ := bp_some hD
  refine kVi_X (As := [.int x2, .int x3]) (rest := []) (ci := 6) (q0 := 20) C (c_X6_rightFromOtherEnd l g H.size σ x2 x3 hd1) kw_X10_7 ⟨rfl, rfl⟩ ⟨Nat.le_of_ble_eq_true rfl, Nat.le_of_ble_eq_true rfl⟩ kv_X6_rightFromOtherEnd rfl rfl rfl hl.1 (Nat.le_of_ble_eq_true rfl) ⟨Nat.zero_le _, Nat.zero_le _⟩ dX10_word_3 hP hS rfl (fun H locs hP hS => ?_)
  refine lv_aload_n C.1 C.2.1 dX10_word_6 rfl (lv_at hl 1 rfl) ?_
  refine lv_iload_n C.1 C.2.1 dX10_word_7 rfl (lv_at hl 2 rfl) ?_
  refine lv_iload_n C.1 C.2.1 dX10_word_8 rfl (lv_at hl 3 rfl) ?_
  obtain ⟨r2, hd2, hD⟩ := bp_some hD
  refine kVi_X (As := [.int x2, .int x3]) (rest := [.int r1]) (ci := 6) (q0 := 20) C (c_X6_alike l g H.size σ x2 x3 hd2) kw_X10_13 ⟨rfl, rfl⟩ ⟨Nat.le_of_ble_eq_true rfl, Nat.le_of_ble_eq_true rfl⟩ kv_X6_alike rfl rfl rfl hl.1 (Nat.le_of_ble_eq_true rfl) ⟨Nat.zero_le _, Nat.zero_le _⟩ dX10_word_9 hP hS rfl (fun H locs hP hS => ?_)
  obtain ⟨r3, hd3, hD⟩ := bp_some hD
  refine kPW_X10 C (c_X2_plainWord l g H.size σ r1 r2 hd3) ⟨rfl, rfl⟩ ⟨Nat.le_of_ble_eq_true rfl, Nat.le_of_ble_eq_true rfl⟩ hl.1 (Nat.le_of_ble_eq_true rfl) ⟨Nat.zero_le _, Nat.zero_le _⟩ dX10_word_12 hP hS (fun H locs hP hS => ?_)
  cases hD
  exact ri_X C hr hP hS dX10_word_15
abbrev rm_X1_word : Room := { frames := 2, cells := 0, slots := 0, locals := 42 }
set_option maxHeartbeats 4000000 in
set_option maxRecDepth 100000 in
theorem c_X1_word (l : Launch) (g : Gx) (sz : Nat) (σ : St) (x2 : Int32) (x3 : Int32) {r : Int32} (hD : D_X1_word σ x2 x3 = some r) : Met l yX1_word (Cond.code yX1_word cX1_word 4 (some .int) :: tb) rm_X1_word (PcX g [.ref (g.2.2 8), .ref (g.2.2 20), .int x2, .int x3] σ sz) (QiX g (AX g sz) r σ) 0 0 (AX g sz) := by
  refine Met.ofW (cc := cX1_word) (maxL := 4) (ret := some .int) (by decide) rfl ?_
  intro p e s m args below meth c s₁ B hml hv
  have hv0 := hv
  obtain ⟨rfl, hsz, hP, -⟩ := hv
  subst hsz
  have C : CX g (AX g s.heap.size) p s m _ meth c cX1_word 4 RX1 := CX.of B hml (fun w h => List.mem_cons_of_mem _ h) rfl hv0
  have hr := B.returns
  have hS : va_S (AX g s.heap.size) s.heap s.heap [] := va_S.rf
  have hl := lv_entry ([.ref (g.2.2 8), .ref (g.2.2 20), .int x2, .int x3]) (n := 4) (Nat.le_of_ble_eq_true rfl)
  rw [lg_entry_eq]
  generalize (lg_sl ([.ref (g.2.2 8), .ref (g.2.2 20), .int x2, .int x3]) ++ List.replicate (4 - (lg_sl ([.ref (g.2.2 8), .ref (g.2.2 20), .int x2, .int x3])).length) Slot.unset).toArray = ls at hl ⊢
  have hl : lv_has ls 4 [(0, .ref (g.2.2 8)), (1, .ref (g.2.2 20)), (2, .int x2), (3, .int x3)] := hl
  obtain ⟨H, hH⟩ : ∃ H, H = s.heap := ⟨_, rfl⟩
  have hP : va_P g.1 vwCl (wX g σ) H := by rw [hH]; exact hP
  have hS : va_S (AX g s.heap.size) s.heap H [] := by rw [hH]; exact hS
  refine wH hH ?_
  obtain ⟨locs, hlo⟩ : ∃ locs : List Loc, locs = [] := ⟨_, rfl⟩
  rw [← hlo] at hS
  refine wL hlo ?_
  unfold D_X1_word at hD
  refine lv_aload_n C.1 C.2.1 dX1_word_0 rfl (lv_at hl 1 rfl) ?_
  refine lv_iload_n C.1 C.2.1 dX1_word_1 rfl (lv_at hl 2 rfl) ?_
  refine lv_iload_n C.1 C.2.1 dX1_word_2 rfl (lv_at hl 3 rfl) ?_
  obtain ⟨r1, hd1, hD⟩ := bp_some hD
  refine kVi_X (As := [.int x2, .int x3]) (rest := []) (ci := 6) (q0 := 20) C (c_X6_alike l g H.size σ x2 x3 hd1) kw_X1_7 ⟨rfl, rfl⟩ ⟨Nat.le_of_ble_eq_true rfl, Nat.le_of_ble_eq_true rfl⟩ kv_X6_alike rfl rfl rfl hl.1 (Nat.le_of_ble_eq_true rfl) ⟨Nat.zero_le _, Nat.zero_le _⟩ dX1_word_3 hP hS rfl (fun H locs hP hS => ?_)
  refine lv_iconst (v := (1 : Int32)) C.1 C.2.1 dX1_word_6 (by decide) ?_
  refine lv_iand C.1 C.2.1 dX1_word_7 ?_
  cases hD
  exact ri_X C hr hP hS dX1_word_8
end WLK
section WLW
variable {p : Program} {l : Launch} {e : Env} {R : Room} {s : State} {m : MethodId} {args : Array Value} {below : List Frame} {meth : Method} {c : Code} {H : Heap} {locs : List Loc} {cells slots : Nat} {Q : State → Prop} {cc : ByteArray} {nL pc : Nat} {ls : Array Slot} {rest : List Value} {g : Gx} {A : Nat → Prop} {σ : St} {h : Int64}
theorem kW_X11_174 (C : CX g A p s m args meth c cc nL RX11) {k : Nat} {x2 x3 r : Int32} (hD : D_wd σ k x2 x3 = some r) (hR : 3 ≤ R.frames ∧ 65 ≤ R.locals) (hls : ls.size = nL) (hcat : (rest.map fun v => v.category).sum ≤ 8) (hcs : cells ≤ R.cells ∧ slots ≤ R.slots) (hd : decode cc pc = .ok (.invokevirtual 174, 3)) (hP : va_P g.1 vwCl (wX g σ) H) (hS : va_S A s.heap H locs) (kk : ∀ (H1 : Heap) (locs1 : List Loc), va_P g.1 vwCl (wX g σ) H1 → va_S A s.heap H1 locs1 → W p l e R s m args below meth c H1 locs1 cells slots Q (F0 m (pc + 3) ls (.int r :: rest))) : W p l e R s m args below meth c H locs cells slots Q (F0 m pc ls (.int x3 :: .int x2 :: .ref (g.2.2 20) :: .ref (g.2.2 (4 + k)) :: rest)) := by
  unfold D_wd at hD
  by_cases c0 : k = 0
  · have hD := b_t c0 hD
    subst c0
    exact kVi_X (As := [.ref (g.2.2 20), .int x2, .int x3]) (rest := rest) (ci := 2) (q0 := 4) C (c_X2_word l g H.size σ x2 x3 hD) kw_X11_174_X2 ⟨rfl, rfl⟩ hR kv_X2_word rfl rfl rfl hls hcat hcs hd hP hS rfl kk
  · have hD := b_f c0 hD
    by_cases c1 : k = 1
    · have hD := b_t c1 hD
      subst c1
      exact kUi_X (As := [.ref (g.2.2 20), .int x2, .int x3]) (rest := rest) (x := yX2_word) (owner := RX2) (ci := 7) (q0 := 5) C (c_X7_word l g H.size σ x2 x3 hD) kw_X11_174_X7 ⟨rfl, rfl⟩ hR ku_word rfl rfl rfl hls hcat hcs hd hP hS rfl kk
    · have hD := b_f c1 hD
      by_cases c2 : k = 2
      · have hD := b_t c2 hD
        subst c2
        exact kUi_X (As := [.ref (g.2.2 20), .int x2, .int x3]) (rest := rest) (x := yX2_word) (owner := RX2) (ci := 8) (q0 := 6) C (c_X8_word l g H.size σ x2 x3 hD) kw_X11_174_X8 ⟨rfl, rfl⟩ hR ku_word rfl rfl rfl hls hcat hcs hd hP hS rfl kk
      · have hD := b_f c2 hD
        by_cases c3 : k = 3
        · have hD := b_t c3 hD
          subst c3
          exact kUi_X (As := [.ref (g.2.2 20), .int x2, .int x3]) (rest := rest) (x := yX2_word) (owner := RX2) (ci := 10) (q0 := 7) C (c_X10_word l g H.size σ x2 x3 hD) kw_X11_174_X10 ⟨rfl, rfl⟩ hR ku_word rfl rfl rfl hls hcat hcs hd hP hS rfl kk
        · have hD := b_f c3 hD
          by_cases c4 : k = 4
          · have hD := b_t c4 hD
            subst c4
            exact kUi_X (As := [.ref (g.2.2 20), .int x2, .int x3]) (rest := rest) (x := yX2_word) (owner := RX2) (ci := 1) (q0 := 8) C (c_X1_word l g H.size σ x2 x3 hD) kw_X11_174_X1 ⟨rfl, rfl⟩ hR ku_word rfl rfl rfl hls hcat hcs hd hP hS rfl kk
          · have hD := b_f c4 hD
            cases hD
theorem kW_X4_53 (C : CX g A p s m args meth c cc nL RX4) {k : Nat} {x2 x3 r : Int32} (hD : D_wd σ k x2 x3 = some r) (hR : 3 ≤ R.frames ∧ 65 ≤ R.locals) (hls : ls.size = nL) (hcat : (rest.map fun v => v.category).sum ≤ 8) (hcs : cells ≤ R.cells ∧ slots ≤ R.slots) (hd : decode cc pc = .ok (.invokevirtual 53, 3)) (hP : va_P g.1 vwCl (wX g σ) H) (hS : va_S A s.heap H locs) (kk : ∀ (H1 : Heap) (locs1 : List Loc), va_P g.1 vwCl (wX g σ) H1 → va_S A s.heap H1 locs1 → W p l e R s m args below meth c H1 locs1 cells slots Q (F0 m (pc + 3) ls (.int r :: rest))) : W p l e R s m args below meth c H locs cells slots Q (F0 m pc ls (.int x3 :: .int x2 :: .ref (g.2.2 20) :: .ref (g.2.2 (4 + k)) :: rest)) := by
  unfold D_wd at hD
  by_cases c0 : k = 0
  · have hD := b_t c0 hD
    subst c0
    exact kVi_X (As := [.ref (g.2.2 20), .int x2, .int x3]) (rest := rest) (ci := 2) (q0 := 4) C (c_X2_word l g H.size σ x2 x3 hD) kw_X4_53_X2 ⟨rfl, rfl⟩ hR kv_X2_word rfl rfl rfl hls hcat hcs hd hP hS rfl kk
  · have hD := b_f c0 hD
    by_cases c1 : k = 1
    · have hD := b_t c1 hD
      subst c1
      exact kUi_X (As := [.ref (g.2.2 20), .int x2, .int x3]) (rest := rest) (x := yX2_word) (owner := RX2) (ci := 7) (q0 := 5) C (c_X7_word l g H.size σ x2 x3 hD) kw_X4_53_X7 ⟨rfl, rfl⟩ hR ku_word rfl rfl rfl hls hcat hcs hd hP hS rfl kk
    · have hD := b_f c1 hD
      by_cases c2 : k = 2
      · have hD := b_t c2 hD
        subst c2
        exact kUi_X (As := [.ref (g.2.2 20), .int x2, .int x3]) (rest := rest) (x := yX2_word) (owner := RX2) (ci := 8) (q0 := 6) C (c_X8_word l g H.size σ x2 x3 hD) kw_X4_53_X8 ⟨rfl, rfl⟩ hR ku_word rfl rfl rfl hls hcat hcs hd hP hS rfl kk
      · have hD := b_f c2 hD
        by_cases c3 : k = 3
        · have hD := b_t c3 hD
          subst c3
          exact kUi_X (As := [.ref (g.2.2 20), .int x2, .int x3]) (rest := rest) (x := yX2_word) (owner := RX2) (ci := 10) (q0 := 7) C (c_X10_word l g H.size σ x2 x3 hD) kw_X4_53_X10 ⟨rfl, rfl⟩ hR ku_word rfl rfl rfl hls hcat hcs hd hP hS rfl kk
        · have hD := b_f c3 hD
          by_cases c4 : k = 4
          · have hD := b_t c4 hD
            subst c4
            exact kUi_X (As := [.ref (g.2.2 20), .int x2, .int x3]) (rest := rest) (x := yX2_word) (owner := RX2) (ci := 1) (q0 := 8) C (c_X1_word l g H.size σ x2 x3 hD) kw_X4_53_X1 ⟨rfl, rfl⟩ hR ku_word rfl rfl rfl hls hcat hcs hd hP hS rfl kk
          · have hD := b_f c4 hD
            cases hD
theorem kW_X5_33 (C : CX g A p s m args meth c cc nL RX5) {k : Nat} {x2 x3 r : Int32} (hD : D_wd σ k x2 x3 = some r) (hR : 3 ≤ R.frames ∧ 65 ≤ R.locals) (hls : ls.size = nL) (hcat : (rest.map fun v => v.category).sum ≤ 8) (hcs : cells ≤ R.cells ∧ slots ≤ R.slots) (hd : decode cc pc = .ok (.invokevirtual 33, 3)) (hP : va_P g.1 vwCl (wX g σ) H) (hS : va_S A s.heap H locs) (kk : ∀ (H1 : Heap) (locs1 : List Loc), va_P g.1 vwCl (wX g σ) H1 → va_S A s.heap H1 locs1 → W p l e R s m args below meth c H1 locs1 cells slots Q (F0 m (pc + 3) ls (.int r :: rest))) : W p l e R s m args below meth c H locs cells slots Q (F0 m pc ls (.int x3 :: .int x2 :: .ref (g.2.2 20) :: .ref (g.2.2 (4 + k)) :: rest)) := by
  unfold D_wd at hD
  by_cases c0 : k = 0
  · have hD := b_t c0 hD
    subst c0
    exact kVi_X (As := [.ref (g.2.2 20), .int x2, .int x3]) (rest := rest) (ci := 2) (q0 := 4) C (c_X2_word l g H.size σ x2 x3 hD) kw_X5_33_X2 ⟨rfl, rfl⟩ hR kv_X2_word rfl rfl rfl hls hcat hcs hd hP hS rfl kk
  · have hD := b_f c0 hD
    by_cases c1 : k = 1
    · have hD := b_t c1 hD
      subst c1
      exact kUi_X (As := [.ref (g.2.2 20), .int x2, .int x3]) (rest := rest) (x := yX2_word) (owner := RX2) (ci := 7) (q0 := 5) C (c_X7_word l g H.size σ x2 x3 hD) kw_X5_33_X7 ⟨rfl, rfl⟩ hR ku_word rfl rfl rfl hls hcat hcs hd hP hS rfl kk
    · have hD := b_f c1 hD
      by_cases c2 : k = 2
      · have hD := b_t c2 hD
        subst c2
        exact kUi_X (As := [.ref (g.2.2 20), .int x2, .int x3]) (rest := rest) (x := yX2_word) (owner := RX2) (ci := 8) (q0 := 6) C (c_X8_word l g H.size σ x2 x3 hD) kw_X5_33_X8 ⟨rfl, rfl⟩ hR ku_word rfl rfl rfl hls hcat hcs hd hP hS rfl kk
      · have hD := b_f c2 hD
        by_cases c3 : k = 3
        · have hD := b_t c3 hD
          subst c3
          exact kUi_X (As := [.ref (g.2.2 20), .int x2, .int x3]) (rest := rest) (x := yX2_word) (owner := RX2) (ci := 10) (q0 := 7) C (c_X10_word l g H.size σ x2 x3 hD) kw_X5_33_X10 ⟨rfl, rfl⟩ hR ku_word rfl rfl rfl hls hcat hcs hd hP hS rfl kk
        · have hD := b_f c3 hD
          by_cases c4 : k = 4
          · have hD := b_t c4 hD
            subst c4
            exact kUi_X (As := [.ref (g.2.2 20), .int x2, .int x3]) (rest := rest) (x := yX2_word) (owner := RX2) (ci := 1) (q0 := 8) C (c_X1_word l g H.size σ x2 x3 hD) kw_X5_33_X1 ⟨rfl, rfl⟩ hR ku_word rfl rfl rfl hls hcat hcs hd hP hS rfl kk
          · have hD := b_f c4 hD
            cases hD
theorem kW_X6_52 (C : CX g A p s m args meth c cc nL RX6) {k : Nat} {x2 x3 r : Int32} (hD : D_wd σ k x2 x3 = some r) (hR : 3 ≤ R.frames ∧ 65 ≤ R.locals) (hls : ls.size = nL) (hcat : (rest.map fun v => v.category).sum ≤ 8) (hcs : cells ≤ R.cells ∧ slots ≤ R.slots) (hd : decode cc pc = .ok (.invokevirtual 52, 3)) (hP : va_P g.1 vwCl (wX g σ) H) (hS : va_S A s.heap H locs) (kk : ∀ (H1 : Heap) (locs1 : List Loc), va_P g.1 vwCl (wX g σ) H1 → va_S A s.heap H1 locs1 → W p l e R s m args below meth c H1 locs1 cells slots Q (F0 m (pc + 3) ls (.int r :: rest))) : W p l e R s m args below meth c H locs cells slots Q (F0 m pc ls (.int x3 :: .int x2 :: .ref (g.2.2 20) :: .ref (g.2.2 (4 + k)) :: rest)) := by
  unfold D_wd at hD
  by_cases c0 : k = 0
  · have hD := b_t c0 hD
    subst c0
    exact kVi_X (As := [.ref (g.2.2 20), .int x2, .int x3]) (rest := rest) (ci := 2) (q0 := 4) C (c_X2_word l g H.size σ x2 x3 hD) kw_X6_52_X2 ⟨rfl, rfl⟩ hR kv_X2_word rfl rfl rfl hls hcat hcs hd hP hS rfl kk
  · have hD := b_f c0 hD
    by_cases c1 : k = 1
    · have hD := b_t c1 hD
      subst c1
      exact kUi_X (As := [.ref (g.2.2 20), .int x2, .int x3]) (rest := rest) (x := yX2_word) (owner := RX2) (ci := 7) (q0 := 5) C (c_X7_word l g H.size σ x2 x3 hD) kw_X6_52_X7 ⟨rfl, rfl⟩ hR ku_word rfl rfl rfl hls hcat hcs hd hP hS rfl kk
    · have hD := b_f c1 hD
      by_cases c2 : k = 2
      · have hD := b_t c2 hD
        subst c2
        exact kUi_X (As := [.ref (g.2.2 20), .int x2, .int x3]) (rest := rest) (x := yX2_word) (owner := RX2) (ci := 8) (q0 := 6) C (c_X8_word l g H.size σ x2 x3 hD) kw_X6_52_X8 ⟨rfl, rfl⟩ hR ku_word rfl rfl rfl hls hcat hcs hd hP hS rfl kk
      · have hD := b_f c2 hD
        by_cases c3 : k = 3
        · have hD := b_t c3 hD
          subst c3
          exact kUi_X (As := [.ref (g.2.2 20), .int x2, .int x3]) (rest := rest) (x := yX2_word) (owner := RX2) (ci := 10) (q0 := 7) C (c_X10_word l g H.size σ x2 x3 hD) kw_X6_52_X10 ⟨rfl, rfl⟩ hR ku_word rfl rfl rfl hls hcat hcs hd hP hS rfl kk
        · have hD := b_f c3 hD
          by_cases c4 : k = 4
          · have hD := b_t c4 hD
            subst c4
            exact kUi_X (As := [.ref (g.2.2 20), .int x2, .int x3]) (rest := rest) (x := yX2_word) (owner := RX2) (ci := 1) (q0 := 8) C (c_X1_word l g H.size σ x2 x3 hD) kw_X6_52_X1 ⟨rfl, rfl⟩ hR ku_word rfl rfl rfl hls hcat hcs hd hP hS rfl kk
          · have hD := b_f c4 hD
            cases hD
theorem kW_X9_50 (C : CX g A p s m args meth c cc nL RX9) {k : Nat} {x2 x3 r : Int32} (hD : D_wd σ k x2 x3 = some r) (hR : 3 ≤ R.frames ∧ 65 ≤ R.locals) (hls : ls.size = nL) (hcat : (rest.map fun v => v.category).sum ≤ 8) (hcs : cells ≤ R.cells ∧ slots ≤ R.slots) (hd : decode cc pc = .ok (.invokevirtual 50, 3)) (hP : va_P g.1 vwCl (wX g σ) H) (hS : va_S A s.heap H locs) (kk : ∀ (H1 : Heap) (locs1 : List Loc), va_P g.1 vwCl (wX g σ) H1 → va_S A s.heap H1 locs1 → W p l e R s m args below meth c H1 locs1 cells slots Q (F0 m (pc + 3) ls (.int r :: rest))) : W p l e R s m args below meth c H locs cells slots Q (F0 m pc ls (.int x3 :: .int x2 :: .ref (g.2.2 20) :: .ref (g.2.2 (4 + k)) :: rest)) := by
  unfold D_wd at hD
  by_cases c0 : k = 0
  · have hD := b_t c0 hD
    subst c0
    exact kVi_X (As := [.ref (g.2.2 20), .int x2, .int x3]) (rest := rest) (ci := 2) (q0 := 4) C (c_X2_word l g H.size σ x2 x3 hD) kw_X9_50_X2 ⟨rfl, rfl⟩ hR kv_X2_word rfl rfl rfl hls hcat hcs hd hP hS rfl kk
  · have hD := b_f c0 hD
    by_cases c1 : k = 1
    · have hD := b_t c1 hD
      subst c1
      exact kUi_X (As := [.ref (g.2.2 20), .int x2, .int x3]) (rest := rest) (x := yX2_word) (owner := RX2) (ci := 7) (q0 := 5) C (c_X7_word l g H.size σ x2 x3 hD) kw_X9_50_X7 ⟨rfl, rfl⟩ hR ku_word rfl rfl rfl hls hcat hcs hd hP hS rfl kk
    · have hD := b_f c1 hD
      by_cases c2 : k = 2
      · have hD := b_t c2 hD
        subst c2
        exact kUi_X (As := [.ref (g.2.2 20), .int x2, .int x3]) (rest := rest) (x := yX2_word) (owner := RX2) (ci := 8) (q0 := 6) C (c_X8_word l g H.size σ x2 x3 hD) kw_X9_50_X8 ⟨rfl, rfl⟩ hR ku_word rfl rfl rfl hls hcat hcs hd hP hS rfl kk
      · have hD := b_f c2 hD
        by_cases c3 : k = 3
        · have hD := b_t c3 hD
          subst c3
          exact kUi_X (As := [.ref (g.2.2 20), .int x2, .int x3]) (rest := rest) (x := yX2_word) (owner := RX2) (ci := 10) (q0 := 7) C (c_X10_word l g H.size σ x2 x3 hD) kw_X9_50_X10 ⟨rfl, rfl⟩ hR ku_word rfl rfl rfl hls hcat hcs hd hP hS rfl kk
        · have hD := b_f c3 hD
          by_cases c4 : k = 4
          · have hD := b_t c4 hD
            subst c4
            exact kUi_X (As := [.ref (g.2.2 20), .int x2, .int x3]) (rest := rest) (x := yX2_word) (owner := RX2) (ci := 1) (q0 := 8) C (c_X1_word l g H.size σ x2 x3 hD) kw_X9_50_X1 ⟨rfl, rfl⟩ hR ku_word rfl rfl rfl hls hcat hcs hd hP hS rfl kk
          · have hD := b_f c4 hD
            cases hD
end WLW
