/-! the law: its cases -/
theorem pu_s {σ τ : St} {x : Option Int32} {r : Int32} (h : pu σ x = some (r, τ)) : x = some r ∧ τ = σ := by
  unfold pu at h
  cases x with
  | none => cases h
  | some w => cases h; exact ⟨rfl, rfl⟩
theorem lw_in {i L k : Nat} {x : Int32} (hk : k < 5) (hx : (nI i + x) = nI (i + k)) (hi : i + 5 ≤ L) (hL : L ≤ 2560) : vp_in (nI i + x) L := by
  rw [hx]
  exact vp_in_nI (by omega) (by omega)
theorem lw_cmp (r : Int64) : lg_cmp r r = 0 := by
  unfold lg_cmp
  rw [if_neg (show ¬ r > r from fun q => by have := Int64.lt_iff_toInt_lt.mp q; omega), if_pos rfl]
section LAWC
variable {p : Program} {l : Launch} {e : Env} {s : State} {m : MethodId} {below : List Frame} {meth : Method} {c : Code} {H : Heap} {locs : List Loc} {Q : State → Prop} {ls : Array Slot} {g : Gx} {b L : Nat} {xs : Nat → Int32} {i n N : Nat} {σ μ : St} {h : Int64}
theorem lk_letter (C : CX g (fun q : Nat => s.heap.size ≤ q) p s m #[Value.ref b] meth c cL_law 4 RL) (C2 : CM g (fun q : Nat => s.heap.size ≤ q) p s m #[Value.ref b] meth c cL_law 4 RL) (hX : va_X b L xs s s.heap) (hbl : b < s.heap.size) (hi : i + 5 ≤ L) (hL : L ≤ 2560) (hN : 5000 ≤ N) (hn : n < 1000000) (hR : RelE n σ μ) (hl : lv_has ls 4 [(3, .int (nI i)), (2, .ref (g.2.2 31)), (1, .ref (g.2.2 0)), (0, .ref b)]) (hP : va_P g.1 vwCl (wX g σ) H) (hPM : va_P g.1 vwCl (wM g h μ) H) (hS : va_S (fun q : Nat => s.heap.size ≤ q) s.heap H locs) (kk : ∀ (σ2 μ2 : St) (h2 : Int64) (H1 : Heap) (locs1 : List Loc), RelE (n + 1) σ2 μ2 → va_P g.1 vwCl (wX g σ2) H1 → va_P g.1 vwCl (wM g h2 μ2) H1 → va_S (fun q : Nat => s.heap.size ≤ q) s.heap H1 locs1 → W p l e room_1 s m #[Value.ref b] below meth c H1 locs1 41 10789 Q (F0 m 841 ls [])) : W p l e room_1 s m #[Value.ref b] below meth c H locs 41 10789 Q (F0 m 152 ls []) := by
  have v1 : vp_in (nI i + 1) L := lw_in (k := 1) (by omega) (nI_1 i) hi hL
  obtain ⟨r, τ, ν, e1, e2, hR2⟩ := q_letter hR (xs (nI i + 1).toNatClampNeg)
  refine lv_aload_n C.1 C.2.1 dL_law_152 rfl (lv_at hl 2 rfl) ?_
  refine lv_aload_n C.1 C.2.1 dL_law_153 rfl (lv_at hl 3 rfl) ?_
  refine lv_iload_n C.1 C.2.1 dL_law_154 rfl (lv_at hl 0 rfl) ?_
  refine lv_iconst (v := 1) C.1 C.2.1 dL_law_155 (by decide) ?_
  refine lv_iadd C.1 C.2.1 dL_law_156 ?_
  refine va_sld C.1 C.2.1 hX hbl (Nat.not_le.mpr hbl) hS v1 dL_law_157 ?_
  refine lkVi_X (n := 1) (As := [.int (xs (nI i + 1).toNatClampNeg)]) (rest := []) (ci := 11) (q0 := 0) C (c_X11_letter l g H.size σ _ e1) (List.forall_mem_cons.mpr ⟨tb_in 326 (by decide +kernel) (by decide +kernel), List.forall_mem_cons.mpr ⟨tb_in 327 (by decide +kernel) (by decide +kernel), List.forall_mem_cons.mpr ⟨tb_in 328 (by decide +kernel) (by decide +kernel), List.forall_mem_cons.mpr ⟨tb_in 57 (by decide +kernel) (by decide +kernel), List.forall_mem_cons.mpr ⟨tb_in 329 (by decide +kernel) (by decide +kernel), fun _ h => absurd h List.not_mem_nil⟩⟩⟩⟩⟩) ⟨rfl, rfl⟩ ⟨Nat.le_of_ble_eq_true rfl, Nat.le_of_ble_eq_true rfl⟩ (by decide +kernel) rfl rfl rfl hl.1 (Nat.le_of_ble_eq_true rfl) ⟨Nat.le_of_ble_eq_true rfl, Nat.le_of_ble_eq_true rfl⟩ dL_law_158 hP hPM hS rfl (fun H locs hP hPM hS => ?_)
  refine lv_aload_n C.1 C.2.1 dL_law_161 rfl (lv_at hl 1 rfl) ?_
  refine lv_aload_n C.1 C.2.1 dL_law_162 rfl (lv_at hl 3 rfl) ?_
  refine lv_iload_n C.1 C.2.1 dL_law_163 rfl (lv_at hl 0 rfl) ?_
  refine lv_iconst (v := 1) C.1 C.2.1 dL_law_164 (by decide) ?_
  refine lv_iadd C.1 C.2.1 dL_law_165 ?_
  refine va_sld C.1 C.2.1 hX hbl (Nat.not_le.mpr hbl) hS v1 dL_law_166 ?_
  refine lkVi_M (n := 1) (As := [.int (xs (nI i + 1).toNatClampNeg)]) (rest := [.int r]) (ci := 12) (q0 := 0) C2 (c_X12_letter l g H.size μ _ e2) (List.forall_mem_cons.mpr ⟨tb_in 862 (by decide +kernel) (by decide +kernel), List.forall_mem_cons.mpr ⟨tb_in 863 (by decide +kernel) (by decide +kernel), List.forall_mem_cons.mpr ⟨tb_in 864 (by decide +kernel) (by decide +kernel), List.forall_mem_cons.mpr ⟨tb_in 69 (by decide +kernel) (by decide +kernel), List.forall_mem_cons.mpr ⟨tb_in 865 (by decide +kernel) (by decide +kernel), fun _ h => absurd h List.not_mem_nil⟩⟩⟩⟩⟩) ⟨rfl, rfl⟩ ⟨Nat.le_of_ble_eq_true rfl, Nat.le_of_ble_eq_true rfl⟩ (by decide +kernel) rfl rfl rfl hl.1 (Nat.le_of_ble_eq_true rfl) ⟨Nat.le_of_ble_eq_true rfl, Nat.le_of_ble_eq_true rfl⟩ dL_law_167 hPM hP hS rfl (fun H locs hPM hP hS => ?_)
  refine lv_icmp_eq (tgt := 841) C.1 C.2.1 dL_law_170 (by decide) (fun c1 => ?_) (fun c1 => absurd rfl c1)
  exact kk _ _ _ _ _ hR2 hP hPM hS
theorem lk_blank (C : CX g (fun q : Nat => s.heap.size ≤ q) p s m #[Value.ref b] meth c cL_law 4 RL) (C2 : CM g (fun q : Nat => s.heap.size ≤ q) p s m #[Value.ref b] meth c cL_law 4 RL) (hX : va_X b L xs s s.heap) (hbl : b < s.heap.size) (hi : i + 5 ≤ L) (hL : L ≤ 2560) (hN : 5000 ≤ N) (hn : n < 1000000) (hR : RelE n σ μ) (hl : lv_has ls 4 [(3, .int (nI i)), (2, .ref (g.2.2 31)), (1, .ref (g.2.2 0)), (0, .ref b)]) (hP : va_P g.1 vwCl (wX g σ) H) (hPM : va_P g.1 vwCl (wM g h μ) H) (hS : va_S (fun q : Nat => s.heap.size ≤ q) s.heap H locs) (kk : ∀ (σ2 μ2 : St) (h2 : Int64) (H1 : Heap) (locs1 : List Loc), RelE (n + 1) σ2 μ2 → va_P g.1 vwCl (wX g σ2) H1 → va_P g.1 vwCl (wM g h2 μ2) H1 → va_S (fun q : Nat => s.heap.size ≤ q) s.heap H1 locs1 → W p l e room_1 s m #[Value.ref b] below meth c H1 locs1 41 10789 Q (F0 m 841 ls [])) : W p l e room_1 s m #[Value.ref b] below meth c H locs 41 10789 Q (F0 m 175 ls []) := by
  obtain ⟨r, τ, ν, e1, e2, hR2⟩ := q_blank hR 
  refine lv_aload_n C.1 C.2.1 dL_law_175 rfl (lv_at hl 2 rfl) ?_
  refine lkVi_X (n := 0) (As := []) (rest := []) (ci := 11) (q0 := 0) C (c_X11_blank l g H.size σ e1) (List.forall_mem_cons.mpr ⟨tb_in 334 (by decide +kernel) (by decide +kernel), List.forall_mem_cons.mpr ⟨tb_in 335 (by decide +kernel) (by decide +kernel), List.forall_mem_cons.mpr ⟨tb_in 336 (by decide +kernel) (by decide +kernel), List.forall_mem_cons.mpr ⟨tb_in 57 (by decide +kernel) (by decide +kernel), List.forall_mem_cons.mpr ⟨tb_in 337 (by decide +kernel) (by decide +kernel), fun _ h => absurd h List.not_mem_nil⟩⟩⟩⟩⟩) ⟨rfl, rfl⟩ ⟨Nat.le_of_ble_eq_true rfl, Nat.le_of_ble_eq_true rfl⟩ (by decide +kernel) rfl rfl rfl hl.1 (Nat.le_of_ble_eq_true rfl) ⟨Nat.le_of_ble_eq_true rfl, Nat.le_of_ble_eq_true rfl⟩ dL_law_176 hP hPM hS rfl (fun H locs hP hPM hS => ?_)
  refine lv_aload_n C.1 C.2.1 dL_law_179 rfl (lv_at hl 1 rfl) ?_
  refine lkVi_M (n := 0) (As := []) (rest := [.int r]) (ci := 12) (q0 := 0) C2 (c_X12_blank l g H.size μ e2) (List.forall_mem_cons.mpr ⟨tb_in 870 (by decide +kernel) (by decide +kernel), List.forall_mem_cons.mpr ⟨tb_in 871 (by decide +kernel) (by decide +kernel), List.forall_mem_cons.mpr ⟨tb_in 872 (by decide +kernel) (by decide +kernel), List.forall_mem_cons.mpr ⟨tb_in 69 (by decide +kernel) (by decide +kernel), List.forall_mem_cons.mpr ⟨tb_in 873 (by decide +kernel) (by decide +kernel), fun _ h => absurd h List.not_mem_nil⟩⟩⟩⟩⟩) ⟨rfl, rfl⟩ ⟨Nat.le_of_ble_eq_true rfl, Nat.le_of_ble_eq_true rfl⟩ (by decide +kernel) rfl rfl rfl hl.1 (Nat.le_of_ble_eq_true rfl) ⟨Nat.le_of_ble_eq_true rfl, Nat.le_of_ble_eq_true rfl⟩ dL_law_180 hPM hP hS rfl (fun H locs hPM hP hS => ?_)
  refine lv_icmp_eq (tgt := 841) C.1 C.2.1 dL_law_183 (by decide) (fun c1 => ?_) (fun c1 => absurd rfl c1)
  exact kk _ _ _ _ _ hR2 hP hPM hS
theorem lk_fault (C : CX g (fun q : Nat => s.heap.size ≤ q) p s m #[Value.ref b] meth c cL_law 4 RL) (C2 : CM g (fun q : Nat => s.heap.size ≤ q) p s m #[Value.ref b] meth c cL_law 4 RL) (hX : va_X b L xs s s.heap) (hbl : b < s.heap.size) (hi : i + 5 ≤ L) (hL : L ≤ 2560) (hN : 5000 ≤ N) (hn : n < 1000000) (hR : RelE n σ μ) (hl : lv_has ls 4 [(3, .int (nI i)), (2, .ref (g.2.2 31)), (1, .ref (g.2.2 0)), (0, .ref b)]) (hP : va_P g.1 vwCl (wX g σ) H) (hPM : va_P g.1 vwCl (wM g h μ) H) (hS : va_S (fun q : Nat => s.heap.size ≤ q) s.heap H locs) (kk : ∀ (σ2 μ2 : St) (h2 : Int64) (H1 : Heap) (locs1 : List Loc), RelE (n + 1) σ2 μ2 → va_P g.1 vwCl (wX g σ2) H1 → va_P g.1 vwCl (wM g h2 μ2) H1 → va_S (fun q : Nat => s.heap.size ≤ q) s.heap H1 locs1 → W p l e room_1 s m #[Value.ref b] below meth c H1 locs1 41 10789 Q (F0 m 841 ls [])) : W p l e room_1 s m #[Value.ref b] below meth c H locs 41 10789 Q (F0 m 188 ls []) := by
  obtain ⟨r, τ, ν, e1, e2, hR2⟩ := q_fault (N := N) hN hR 
  obtain ⟨e1, t1⟩ := pu_s e1
  rw [t1] at hR2
  refine lv_aload_n C.1 C.2.1 dL_law_188 rfl (lv_at hl 2 rfl) ?_
  refine lkVi_X (n := 0) (As := []) (rest := []) (ci := 11) (q0 := 0) C (c_X11_fault l g H.size N σ e1) (List.forall_mem_cons.mpr ⟨tb_in 338 (by decide +kernel) (by decide +kernel), List.forall_mem_cons.mpr ⟨tb_in 339 (by decide +kernel) (by decide +kernel), List.forall_mem_cons.mpr ⟨tb_in 340 (by decide +kernel) (by decide +kernel), List.forall_mem_cons.mpr ⟨tb_in 57 (by decide +kernel) (by decide +kernel), List.forall_mem_cons.mpr ⟨tb_in 341 (by decide +kernel) (by decide +kernel), fun _ h => absurd h List.not_mem_nil⟩⟩⟩⟩⟩) ⟨rfl, rfl⟩ ⟨Nat.le_of_ble_eq_true rfl, Nat.le_of_ble_eq_true rfl⟩ (by decide +kernel) rfl rfl rfl hl.1 (Nat.le_of_ble_eq_true rfl) ⟨Nat.le_of_ble_eq_true rfl, Nat.le_of_ble_eq_true rfl⟩ dL_law_189 hP hPM hS rfl (fun H locs hP hPM hS => ?_)
  refine lv_aload_n C.1 C.2.1 dL_law_192 rfl (lv_at hl 1 rfl) ?_
  refine lkVi_M (n := 0) (As := []) (rest := [.int r]) (ci := 12) (q0 := 0) C2 (c_X12_fault l g H.size N μ e2) (List.forall_mem_cons.mpr ⟨tb_in 874 (by decide +kernel) (by decide +kernel), List.forall_mem_cons.mpr ⟨tb_in 875 (by decide +kernel) (by decide +kernel), List.forall_mem_cons.mpr ⟨tb_in 876 (by decide +kernel) (by decide +kernel), List.forall_mem_cons.mpr ⟨tb_in 69 (by decide +kernel) (by decide +kernel), List.forall_mem_cons.mpr ⟨tb_in 877 (by decide +kernel) (by decide +kernel), fun _ h => absurd h List.not_mem_nil⟩⟩⟩⟩⟩) ⟨rfl, rfl⟩ ⟨Nat.le_of_ble_eq_true rfl, Nat.le_of_ble_eq_true rfl⟩ (by decide +kernel) rfl rfl rfl hl.1 (Nat.le_of_ble_eq_true rfl) ⟨Nat.le_of_ble_eq_true rfl, Nat.le_of_ble_eq_true rfl⟩ dL_law_193 hPM hP hS rfl (fun H locs hPM hP hS => ?_)
  refine lv_icmp_eq (tgt := 841) C.1 C.2.1 dL_law_196 (by decide) (fun c1 => ?_) (fun c1 => absurd rfl c1)
  exact kk _ _ _ _ _ hR2 hP hPM hS
theorem lk_game (C : CX g (fun q : Nat => s.heap.size ≤ q) p s m #[Value.ref b] meth c cL_law 4 RL) (C2 : CM g (fun q : Nat => s.heap.size ≤ q) p s m #[Value.ref b] meth c cL_law 4 RL) (hX : va_X b L xs s s.heap) (hbl : b < s.heap.size) (hi : i + 5 ≤ L) (hL : L ≤ 2560) (hN : 5000 ≤ N) (hn : n < 1000000) (hR : RelE n σ μ) (hl : lv_has ls 4 [(3, .int (nI i)), (2, .ref (g.2.2 31)), (1, .ref (g.2.2 0)), (0, .ref b)]) (hP : va_P g.1 vwCl (wX g σ) H) (hPM : va_P g.1 vwCl (wM g h μ) H) (hS : va_S (fun q : Nat => s.heap.size ≤ q) s.heap H locs) (kk : ∀ (σ2 μ2 : St) (h2 : Int64) (H1 : Heap) (locs1 : List Loc), RelE (n + 1) σ2 μ2 → va_P g.1 vwCl (wX g σ2) H1 → va_P g.1 vwCl (wM g h2 μ2) H1 → va_S (fun q : Nat => s.heap.size ≤ q) s.heap H1 locs1 → W p l e room_1 s m #[Value.ref b] below meth c H1 locs1 41 10789 Q (F0 m 841 ls [])) : W p l e room_1 s m #[Value.ref b] below meth c H locs 41 10789 Q (F0 m 201 ls []) := by
  obtain ⟨r, τ, ν, e1, e2, hR2⟩ := q_game (N := N) hN hR 
  refine lv_aload_n C.1 C.2.1 dL_law_201 rfl (lv_at hl 2 rfl) ?_
  refine lkVi_X (n := 0) (As := []) (rest := []) (ci := 11) (q0 := 0) C (c_X11_game l g H.size N σ e1) (List.forall_mem_cons.mpr ⟨tb_in 450 (by decide +kernel) (by decide +kernel), List.forall_mem_cons.mpr ⟨tb_in 451 (by decide +kernel) (by decide +kernel), List.forall_mem_cons.mpr ⟨tb_in 452 (by decide +kernel) (by decide +kernel), List.forall_mem_cons.mpr ⟨tb_in 57 (by decide +kernel) (by decide +kernel), List.forall_mem_cons.mpr ⟨tb_in 453 (by decide +kernel) (by decide +kernel), fun _ h => absurd h List.not_mem_nil⟩⟩⟩⟩⟩) ⟨rfl, rfl⟩ ⟨Nat.le_of_ble_eq_true rfl, Nat.le_of_ble_eq_true rfl⟩ (by decide +kernel) rfl rfl rfl hl.1 (Nat.le_of_ble_eq_true rfl) ⟨Nat.le_of_ble_eq_true rfl, Nat.le_of_ble_eq_true rfl⟩ dL_law_202 hP hPM hS rfl (fun H locs hP hPM hS => ?_)
  refine lv_aload_n C.1 C.2.1 dL_law_205 rfl (lv_at hl 1 rfl) ?_
  refine lkVi_M (n := 0) (As := []) (rest := [.int r]) (ci := 12) (q0 := 0) C2 (c_X12_game l g H.size N μ e2) (List.forall_mem_cons.mpr ⟨tb_in 898 (by decide +kernel) (by decide +kernel), List.forall_mem_cons.mpr ⟨tb_in 899 (by decide +kernel) (by decide +kernel), List.forall_mem_cons.mpr ⟨tb_in 900 (by decide +kernel) (by decide +kernel), List.forall_mem_cons.mpr ⟨tb_in 69 (by decide +kernel) (by decide +kernel), List.forall_mem_cons.mpr ⟨tb_in 901 (by decide +kernel) (by decide +kernel), fun _ h => absurd h List.not_mem_nil⟩⟩⟩⟩⟩) ⟨rfl, rfl⟩ ⟨Nat.le_of_ble_eq_true rfl, Nat.le_of_ble_eq_true rfl⟩ (by decide +kernel) rfl rfl rfl hl.1 (Nat.le_of_ble_eq_true rfl) ⟨Nat.le_of_ble_eq_true rfl, Nat.le_of_ble_eq_true rfl⟩ dL_law_206 hPM hP hS rfl (fun H locs hPM hP hS => ?_)
  refine lv_icmp_eq (tgt := 841) C.1 C.2.1 dL_law_209 (by decide) (fun c1 => ?_) (fun c1 => absurd rfl c1)
  exact kk _ _ _ _ _ hR2 hP hPM hS
theorem lk_judge (C : CX g (fun q : Nat => s.heap.size ≤ q) p s m #[Value.ref b] meth c cL_law 4 RL) (C2 : CM g (fun q : Nat => s.heap.size ≤ q) p s m #[Value.ref b] meth c cL_law 4 RL) (hX : va_X b L xs s s.heap) (hbl : b < s.heap.size) (hi : i + 5 ≤ L) (hL : L ≤ 2560) (hN : 5000 ≤ N) (hn : n < 1000000) (hR : RelE n σ μ) (hl : lv_has ls 4 [(3, .int (nI i)), (2, .ref (g.2.2 31)), (1, .ref (g.2.2 0)), (0, .ref b)]) (hP : va_P g.1 vwCl (wX g σ) H) (hPM : va_P g.1 vwCl (wM g h μ) H) (hS : va_S (fun q : Nat => s.heap.size ≤ q) s.heap H locs) (kk : ∀ (σ2 μ2 : St) (h2 : Int64) (H1 : Heap) (locs1 : List Loc), RelE (n + 1) σ2 μ2 → va_P g.1 vwCl (wX g σ2) H1 → va_P g.1 vwCl (wM g h2 μ2) H1 → va_S (fun q : Nat => s.heap.size ≤ q) s.heap H1 locs1 → W p l e room_1 s m #[Value.ref b] below meth c H1 locs1 41 10789 Q (F0 m 841 ls [])) : W p l e room_1 s m #[Value.ref b] below meth c H locs 41 10789 Q (F0 m 214 ls []) := by
  have v1 : vp_in (nI i + 1) L := lw_in (k := 1) (by omega) (nI_1 i) hi hL
  have v2 : vp_in (nI i + 2) L := lw_in (k := 2) (by omega) (nI_p2 i) hi hL
  obtain ⟨r, τ, ν, e1, e2, hR2⟩ := q_judge (N := N) hN hR (xs (nI i + 1).toNatClampNeg) (xs (nI i + 2).toNatClampNeg)
  obtain ⟨e2, t2⟩ := pu_s e2
  rw [t2] at hR2
  refine lv_aload_n C.1 C.2.1 dL_law_214 rfl (lv_at hl 2 rfl) ?_
  refine lv_aload_n C.1 C.2.1 dL_law_215 rfl (lv_at hl 3 rfl) ?_
  refine lv_iload_n C.1 C.2.1 dL_law_216 rfl (lv_at hl 0 rfl) ?_
  refine lv_iconst (v := 1) C.1 C.2.1 dL_law_217 (by decide) ?_
  refine lv_iadd C.1 C.2.1 dL_law_218 ?_
  refine va_sld C.1 C.2.1 hX hbl (Nat.not_le.mpr hbl) hS v1 dL_law_219 ?_
  refine lv_aload_n C.1 C.2.1 dL_law_220 rfl (lv_at hl 3 rfl) ?_
  refine lv_iload_n C.1 C.2.1 dL_law_221 rfl (lv_at hl 0 rfl) ?_
  refine lv_iconst (v := 2) C.1 C.2.1 dL_law_222 (by decide) ?_
  refine lv_iadd C.1 C.2.1 dL_law_223 ?_
  refine va_sld C.1 C.2.1 hX hbl (Nat.not_le.mpr hbl) hS v2 dL_law_224 ?_
  refine lkVi_X (n := 2) (As := [.int (xs (nI i + 1).toNatClampNeg), .int (xs (nI i + 2).toNatClampNeg)]) (rest := []) (ci := 11) (q0 := 0) C (c_X11_judge l g H.size N σ _ _ e1) (List.forall_mem_cons.mpr ⟨tb_in 488 (by decide +kernel) (by decide +kernel), List.forall_mem_cons.mpr ⟨tb_in 489 (by decide +kernel) (by decide +kernel), List.forall_mem_cons.mpr ⟨tb_in 490 (by decide +kernel) (by decide +kernel), List.forall_mem_cons.mpr ⟨tb_in 57 (by decide +kernel) (by decide +kernel), List.forall_mem_cons.mpr ⟨tb_in 491 (by decide +kernel) (by decide +kernel), fun _ h => absurd h List.not_mem_nil⟩⟩⟩⟩⟩) ⟨rfl, rfl⟩ ⟨Nat.le_of_ble_eq_true rfl, Nat.le_of_ble_eq_true rfl⟩ (by decide +kernel) rfl rfl rfl hl.1 (Nat.le_of_ble_eq_true rfl) ⟨Nat.le_of_ble_eq_true rfl, Nat.le_of_ble_eq_true rfl⟩ dL_law_225 hP hPM hS rfl (fun H locs hP hPM hS => ?_)
  refine lv_aload_n C.1 C.2.1 dL_law_228 rfl (lv_at hl 1 rfl) ?_
  refine lv_aload_n C.1 C.2.1 dL_law_229 rfl (lv_at hl 3 rfl) ?_
  refine lv_iload_n C.1 C.2.1 dL_law_230 rfl (lv_at hl 0 rfl) ?_
  refine lv_iconst (v := 1) C.1 C.2.1 dL_law_231 (by decide) ?_
  refine lv_iadd C.1 C.2.1 dL_law_232 ?_
  refine va_sld C.1 C.2.1 hX hbl (Nat.not_le.mpr hbl) hS v1 dL_law_233 ?_
  refine lv_aload_n C.1 C.2.1 dL_law_234 rfl (lv_at hl 3 rfl) ?_
  refine lv_iload_n C.1 C.2.1 dL_law_235 rfl (lv_at hl 0 rfl) ?_
  refine lv_iconst (v := 2) C.1 C.2.1 dL_law_236 (by decide) ?_
  refine lv_iadd C.1 C.2.1 dL_law_237 ?_
  refine va_sld C.1 C.2.1 hX hbl (Nat.not_le.mpr hbl) hS v2 dL_law_238 ?_
  refine lkVi_M (n := 2) (As := [.int (xs (nI i + 1).toNatClampNeg), .int (xs (nI i + 2).toNatClampNeg)]) (rest := [.int r]) (ci := 12) (q0 := 0) C2 (c_X12_judge l g H.size N μ _ _ e2) (List.forall_mem_cons.mpr ⟨tb_in 962 (by decide +kernel) (by decide +kernel), List.forall_mem_cons.mpr ⟨tb_in 963 (by decide +kernel) (by decide +kernel), List.forall_mem_cons.mpr ⟨tb_in 964 (by decide +kernel) (by decide +kernel), List.forall_mem_cons.mpr ⟨tb_in 69 (by decide +kernel) (by decide +kernel), List.forall_mem_cons.mpr ⟨tb_in 965 (by decide +kernel) (by decide +kernel), fun _ h => absurd h List.not_mem_nil⟩⟩⟩⟩⟩) ⟨rfl, rfl⟩ ⟨Nat.le_of_ble_eq_true rfl, Nat.le_of_ble_eq_true rfl⟩ (by decide +kernel) rfl rfl rfl hl.1 (Nat.le_of_ble_eq_true rfl) ⟨Nat.le_of_ble_eq_true rfl, Nat.le_of_ble_eq_true rfl⟩ dL_law_239 hPM hP hS rfl (fun H locs hPM hP hS => ?_)
  refine lv_icmp_eq (tgt := 841) C.1 C.2.1 dL_law_242 (by decide) (fun c1 => ?_) (fun c1 => absurd rfl c1)
  exact kk _ _ _ _ _ hR2 hP hPM hS
theorem lk_as (C : CX g (fun q : Nat => s.heap.size ≤ q) p s m #[Value.ref b] meth c cL_law 4 RL) (C2 : CM g (fun q : Nat => s.heap.size ≤ q) p s m #[Value.ref b] meth c cL_law 4 RL) (hX : va_X b L xs s s.heap) (hbl : b < s.heap.size) (hi : i + 5 ≤ L) (hL : L ≤ 2560) (hN : 5000 ≤ N) (hn : n < 1000000) (hR : RelE n σ μ) (hl : lv_has ls 4 [(3, .int (nI i)), (2, .ref (g.2.2 31)), (1, .ref (g.2.2 0)), (0, .ref b)]) (hP : va_P g.1 vwCl (wX g σ) H) (hPM : va_P g.1 vwCl (wM g h μ) H) (hS : va_S (fun q : Nat => s.heap.size ≤ q) s.heap H locs) (kk : ∀ (σ2 μ2 : St) (h2 : Int64) (H1 : Heap) (locs1 : List Loc), RelE (n + 1) σ2 μ2 → va_P g.1 vwCl (wX g σ2) H1 → va_P g.1 vwCl (wM g h2 μ2) H1 → va_S (fun q : Nat => s.heap.size ≤ q) s.heap H1 locs1 → W p l e room_1 s m #[Value.ref b] below meth c H1 locs1 41 10789 Q (F0 m 841 ls [])) : W p l e room_1 s m #[Value.ref b] below meth c H locs 41 10789 Q (F0 m 247 ls []) := by
  have v1 : vp_in (nI i + 1) L := lw_in (k := 1) (by omega) (nI_1 i) hi hL
  have v2 : vp_in (nI i + 2) L := lw_in (k := 2) (by omega) (nI_p2 i) hi hL
  obtain ⟨r, τ, ν, e1, e2, hR2⟩ := q_as hR (xs (nI i + 1).toNatClampNeg) (xs (nI i + 2).toNatClampNeg)
  obtain ⟨e1, t1⟩ := pu_s e1
  rw [t1] at hR2
  obtain ⟨e2, t2⟩ := pu_s e2
  rw [t2] at hR2
  refine lv_aload_n C.1 C.2.1 dL_law_247 rfl (lv_at hl 2 rfl) ?_
  refine lv_aload_n C.1 C.2.1 dL_law_248 rfl (lv_at hl 3 rfl) ?_
  refine lv_iload_n C.1 C.2.1 dL_law_249 rfl (lv_at hl 0 rfl) ?_
  refine lv_iconst (v := 1) C.1 C.2.1 dL_law_250 (by decide) ?_
  refine lv_iadd C.1 C.2.1 dL_law_251 ?_
  refine va_sld C.1 C.2.1 hX hbl (Nat.not_le.mpr hbl) hS v1 dL_law_252 ?_
  refine lv_aload_n C.1 C.2.1 dL_law_253 rfl (lv_at hl 3 rfl) ?_
  refine lv_iload_n C.1 C.2.1 dL_law_254 rfl (lv_at hl 0 rfl) ?_
  refine lv_iconst (v := 2) C.1 C.2.1 dL_law_255 (by decide) ?_
  refine lv_iadd C.1 C.2.1 dL_law_256 ?_
  refine va_sld C.1 C.2.1 hX hbl (Nat.not_le.mpr hbl) hS v2 dL_law_257 ?_
  refine lkVi_X (n := 2) (As := [.int (xs (nI i + 1).toNatClampNeg), .int (xs (nI i + 2).toNatClampNeg)]) (rest := []) (ci := 11) (q0 := 0) C (c_X11_as l g H.size σ _ _ e1) (List.forall_mem_cons.mpr ⟨tb_in 574 (by decide +kernel) (by decide +kernel), List.forall_mem_cons.mpr ⟨tb_in 575 (by decide +kernel) (by decide +kernel), List.forall_mem_cons.mpr ⟨tb_in 576 (by decide +kernel) (by decide +kernel), List.forall_mem_cons.mpr ⟨tb_in 57 (by decide +kernel) (by decide +kernel), List.forall_mem_cons.mpr ⟨tb_in 577 (by decide +kernel) (by decide +kernel), fun _ h => absurd h List.not_mem_nil⟩⟩⟩⟩⟩) ⟨rfl, rfl⟩ ⟨Nat.le_of_ble_eq_true rfl, Nat.le_of_ble_eq_true rfl⟩ (by decide +kernel) rfl rfl rfl hl.1 (Nat.le_of_ble_eq_true rfl) ⟨Nat.le_of_ble_eq_true rfl, Nat.le_of_ble_eq_true rfl⟩ dL_law_258 hP hPM hS rfl (fun H locs hP hPM hS => ?_)
  refine lv_aload_n C.1 C.2.1 dL_law_261 rfl (lv_at hl 1 rfl) ?_
  refine lv_aload_n C.1 C.2.1 dL_law_262 rfl (lv_at hl 3 rfl) ?_
  refine lv_iload_n C.1 C.2.1 dL_law_263 rfl (lv_at hl 0 rfl) ?_
  refine lv_iconst (v := 1) C.1 C.2.1 dL_law_264 (by decide) ?_
  refine lv_iadd C.1 C.2.1 dL_law_265 ?_
  refine va_sld C.1 C.2.1 hX hbl (Nat.not_le.mpr hbl) hS v1 dL_law_266 ?_
  refine lv_aload_n C.1 C.2.1 dL_law_267 rfl (lv_at hl 3 rfl) ?_
  refine lv_iload_n C.1 C.2.1 dL_law_268 rfl (lv_at hl 0 rfl) ?_
  refine lv_iconst (v := 2) C.1 C.2.1 dL_law_269 (by decide) ?_
  refine lv_iadd C.1 C.2.1 dL_law_270 ?_
  refine va_sld C.1 C.2.1 hX hbl (Nat.not_le.mpr hbl) hS v2 dL_law_271 ?_
  refine lkVi_M (n := 2) (As := [.int (xs (nI i + 1).toNatClampNeg), .int (xs (nI i + 2).toNatClampNeg)]) (rest := [.int r]) (ci := 12) (q0 := 0) C2 (c_X12_as l g H.size μ _ _ e2) (List.forall_mem_cons.mpr ⟨tb_in 990 (by decide +kernel) (by decide +kernel), List.forall_mem_cons.mpr ⟨tb_in 991 (by decide +kernel) (by decide +kernel), List.forall_mem_cons.mpr ⟨tb_in 992 (by decide +kernel) (by decide +kernel), List.forall_mem_cons.mpr ⟨tb_in 69 (by decide +kernel) (by decide +kernel), List.forall_mem_cons.mpr ⟨tb_in 993 (by decide +kernel) (by decide +kernel), fun _ h => absurd h List.not_mem_nil⟩⟩⟩⟩⟩) ⟨rfl, rfl⟩ ⟨Nat.le_of_ble_eq_true rfl, Nat.le_of_ble_eq_true rfl⟩ (by decide +kernel) rfl rfl rfl hl.1 (Nat.le_of_ble_eq_true rfl) ⟨Nat.le_of_ble_eq_true rfl, Nat.le_of_ble_eq_true rfl⟩ dL_law_272 hPM hP hS rfl (fun H locs hPM hP hS => ?_)
  refine lv_icmp_eq (tgt := 841) C.1 C.2.1 dL_law_275 (by decide) (fun c1 => ?_) (fun c1 => absurd rfl c1)
  exact kk _ _ _ _ _ hR2 hP hPM hS
theorem lk_row (C : CX g (fun q : Nat => s.heap.size ≤ q) p s m #[Value.ref b] meth c cL_law 4 RL) (C2 : CM g (fun q : Nat => s.heap.size ≤ q) p s m #[Value.ref b] meth c cL_law 4 RL) (hX : va_X b L xs s s.heap) (hbl : b < s.heap.size) (hi : i + 5 ≤ L) (hL : L ≤ 2560) (hN : 5000 ≤ N) (hn : n < 1000000) (hR : RelE n σ μ) (hl : lv_has ls 4 [(3, .int (nI i)), (2, .ref (g.2.2 31)), (1, .ref (g.2.2 0)), (0, .ref b)]) (hP : va_P g.1 vwCl (wX g σ) H) (hPM : va_P g.1 vwCl (wM g h μ) H) (hS : va_S (fun q : Nat => s.heap.size ≤ q) s.heap H locs) (kk : ∀ (σ2 μ2 : St) (h2 : Int64) (H1 : Heap) (locs1 : List Loc), RelE (n + 1) σ2 μ2 → va_P g.1 vwCl (wX g σ2) H1 → va_P g.1 vwCl (wM g h2 μ2) H1 → va_S (fun q : Nat => s.heap.size ≤ q) s.heap H1 locs1 → W p l e room_1 s m #[Value.ref b] below meth c H1 locs1 41 10789 Q (F0 m 841 ls [])) : W p l e room_1 s m #[Value.ref b] below meth c H locs 41 10789 Q (F0 m 280 ls []) := by
  have v1 : vp_in (nI i + 1) L := lw_in (k := 1) (by omega) (nI_1 i) hi hL
  have v2 : vp_in (nI i + 2) L := lw_in (k := 2) (by omega) (nI_p2 i) hi hL
  obtain ⟨r, τ, ν, e1, e2, hR2⟩ := q_row (N := N) hN hR (xs (nI i + 1).toNatClampNeg) (xs (nI i + 2).toNatClampNeg)
  obtain ⟨e1, t1⟩ := pu_s e1
  rw [t1] at hR2
  obtain ⟨e2, t2⟩ := pu_s e2
  rw [t2] at hR2
  refine lv_aload_n C.1 C.2.1 dL_law_280 rfl (lv_at hl 2 rfl) ?_
  refine lv_aload_n C.1 C.2.1 dL_law_281 rfl (lv_at hl 3 rfl) ?_
  refine lv_iload_n C.1 C.2.1 dL_law_282 rfl (lv_at hl 0 rfl) ?_
  refine lv_iconst (v := 1) C.1 C.2.1 dL_law_283 (by decide) ?_
  refine lv_iadd C.1 C.2.1 dL_law_284 ?_
  refine va_sld C.1 C.2.1 hX hbl (Nat.not_le.mpr hbl) hS v1 dL_law_285 ?_
  refine lv_aload_n C.1 C.2.1 dL_law_286 rfl (lv_at hl 3 rfl) ?_
  refine lv_iload_n C.1 C.2.1 dL_law_287 rfl (lv_at hl 0 rfl) ?_
  refine lv_iconst (v := 2) C.1 C.2.1 dL_law_288 (by decide) ?_
  refine lv_iadd C.1 C.2.1 dL_law_289 ?_
  refine va_sld C.1 C.2.1 hX hbl (Nat.not_le.mpr hbl) hS v2 dL_law_290 ?_
  refine lkVi_X (n := 2) (As := [.int (xs (nI i + 1).toNatClampNeg), .int (xs (nI i + 2).toNatClampNeg)]) (rest := []) (ci := 11) (q0 := 0) C (c_X11_row l g H.size N σ _ _ e1) (List.forall_mem_cons.mpr ⟨tb_in 584 (by decide +kernel) (by decide +kernel), List.forall_mem_cons.mpr ⟨tb_in 585 (by decide +kernel) (by decide +kernel), List.forall_mem_cons.mpr ⟨tb_in 586 (by decide +kernel) (by decide +kernel), List.forall_mem_cons.mpr ⟨tb_in 57 (by decide +kernel) (by decide +kernel), List.forall_mem_cons.mpr ⟨tb_in 587 (by decide +kernel) (by decide +kernel), fun _ h => absurd h List.not_mem_nil⟩⟩⟩⟩⟩) ⟨rfl, rfl⟩ ⟨Nat.le_of_ble_eq_true rfl, Nat.le_of_ble_eq_true rfl⟩ (by decide +kernel) rfl rfl rfl hl.1 (Nat.le_of_ble_eq_true rfl) ⟨Nat.le_of_ble_eq_true rfl, Nat.le_of_ble_eq_true rfl⟩ dL_law_291 hP hPM hS rfl (fun H locs hP hPM hS => ?_)
  refine lv_aload_n C.1 C.2.1 dL_law_294 rfl (lv_at hl 1 rfl) ?_
  refine lv_aload_n C.1 C.2.1 dL_law_295 rfl (lv_at hl 3 rfl) ?_
  refine lv_iload_n C.1 C.2.1 dL_law_296 rfl (lv_at hl 0 rfl) ?_
  refine lv_iconst (v := 1) C.1 C.2.1 dL_law_297 (by decide) ?_
  refine lv_iadd C.1 C.2.1 dL_law_298 ?_
  refine va_sld C.1 C.2.1 hX hbl (Nat.not_le.mpr hbl) hS v1 dL_law_299 ?_
  refine lv_aload_n C.1 C.2.1 dL_law_300 rfl (lv_at hl 3 rfl) ?_
  refine lv_iload_n C.1 C.2.1 dL_law_301 rfl (lv_at hl 0 rfl) ?_
  refine lv_iconst (v := 2) C.1 C.2.1 dL_law_302 (by decide) ?_
  refine lv_iadd C.1 C.2.1 dL_law_303 ?_
  refine va_sld C.1 C.2.1 hX hbl (Nat.not_le.mpr hbl) hS v2 dL_law_304 ?_
  refine lkVi_M (n := 2) (As := [.int (xs (nI i + 1).toNatClampNeg), .int (xs (nI i + 2).toNatClampNeg)]) (rest := [.int r]) (ci := 12) (q0 := 0) C2 (c_X12_row l g H.size N μ _ _ e2) (List.forall_mem_cons.mpr ⟨tb_in 995 (by decide +kernel) (by decide +kernel), List.forall_mem_cons.mpr ⟨tb_in 996 (by decide +kernel) (by decide +kernel), List.forall_mem_cons.mpr ⟨tb_in 997 (by decide +kernel) (by decide +kernel), List.forall_mem_cons.mpr ⟨tb_in 69 (by decide +kernel) (by decide +kernel), List.forall_mem_cons.mpr ⟨tb_in 998 (by decide +kernel) (by decide +kernel), fun _ h => absurd h List.not_mem_nil⟩⟩⟩⟩⟩) ⟨rfl, rfl⟩ ⟨Nat.le_of_ble_eq_true rfl, Nat.le_of_ble_eq_true rfl⟩ (by decide +kernel) rfl rfl rfl hl.1 (Nat.le_of_ble_eq_true rfl) ⟨Nat.le_of_ble_eq_true rfl, Nat.le_of_ble_eq_true rfl⟩ dL_law_305 hPM hP hS rfl (fun H locs hPM hP hS => ?_)
  refine lv_icmp_eq (tgt := 841) C.1 C.2.1 dL_law_308 (by decide) (fun c1 => ?_) (fun c1 => absurd rfl c1)
  exact kk _ _ _ _ _ hR2 hP hPM hS
theorem lk_tells (C : CX g (fun q : Nat => s.heap.size ≤ q) p s m #[Value.ref b] meth c cL_law 4 RL) (C2 : CM g (fun q : Nat => s.heap.size ≤ q) p s m #[Value.ref b] meth c cL_law 4 RL) (hX : va_X b L xs s s.heap) (hbl : b < s.heap.size) (hi : i + 5 ≤ L) (hL : L ≤ 2560) (hN : 5000 ≤ N) (hn : n < 1000000) (hR : RelE n σ μ) (hl : lv_has ls 4 [(3, .int (nI i)), (2, .ref (g.2.2 31)), (1, .ref (g.2.2 0)), (0, .ref b)]) (hP : va_P g.1 vwCl (wX g σ) H) (hPM : va_P g.1 vwCl (wM g h μ) H) (hS : va_S (fun q : Nat => s.heap.size ≤ q) s.heap H locs) (kk : ∀ (σ2 μ2 : St) (h2 : Int64) (H1 : Heap) (locs1 : List Loc), RelE (n + 1) σ2 μ2 → va_P g.1 vwCl (wX g σ2) H1 → va_P g.1 vwCl (wM g h2 μ2) H1 → va_S (fun q : Nat => s.heap.size ≤ q) s.heap H1 locs1 → W p l e room_1 s m #[Value.ref b] below meth c H1 locs1 41 10789 Q (F0 m 841 ls [])) : W p l e room_1 s m #[Value.ref b] below meth c H locs 41 10789 Q (F0 m 313 ls []) := by
  have v1 : vp_in (nI i + 1) L := lw_in (k := 1) (by omega) (nI_1 i) hi hL
  have v2 : vp_in (nI i + 2) L := lw_in (k := 2) (by omega) (nI_p2 i) hi hL
  have v3 : vp_in (nI i + 3) L := lw_in (k := 3) (by omega) (nI_p3 i) hi hL
  obtain ⟨r, τ, ν, e1, e2, hR2⟩ := q_tells (N := N) hN hR (xs (nI i + 1).toNatClampNeg) (xs (nI i + 2).toNatClampNeg) (xs (nI i + 3).toNatClampNeg)
  obtain ⟨e1, t1⟩ := pu_s e1
  rw [t1] at hR2
  obtain ⟨e2, t2⟩ := pu_s e2
  rw [t2] at hR2
  refine lv_aload_n C.1 C.2.1 dL_law_313 rfl (lv_at hl 2 rfl) ?_
  refine lv_aload_n C.1 C.2.1 dL_law_314 rfl (lv_at hl 3 rfl) ?_
  refine lv_iload_n C.1 C.2.1 dL_law_315 rfl (lv_at hl 0 rfl) ?_
  refine lv_iconst (v := 1) C.1 C.2.1 dL_law_316 (by decide) ?_
  refine lv_iadd C.1 C.2.1 dL_law_317 ?_
  refine va_sld C.1 C.2.1 hX hbl (Nat.not_le.mpr hbl) hS v1 dL_law_318 ?_
  refine lv_aload_n C.1 C.2.1 dL_law_319 rfl (lv_at hl 3 rfl) ?_
  refine lv_iload_n C.1 C.2.1 dL_law_320 rfl (lv_at hl 0 rfl) ?_
  refine lv_iconst (v := 2) C.1 C.2.1 dL_law_321 (by decide) ?_
  refine lv_iadd C.1 C.2.1 dL_law_322 ?_
  refine va_sld C.1 C.2.1 hX hbl (Nat.not_le.mpr hbl) hS v2 dL_law_323 ?_
  refine lv_aload_n C.1 C.2.1 dL_law_324 rfl (lv_at hl 3 rfl) ?_
  refine lv_iload_n C.1 C.2.1 dL_law_325 rfl (lv_at hl 0 rfl) ?_
  refine lv_iconst (v := 3) C.1 C.2.1 dL_law_326 (by decide) ?_
  refine lv_iadd C.1 C.2.1 dL_law_327 ?_
  refine va_sld C.1 C.2.1 hX hbl (Nat.not_le.mpr hbl) hS v3 dL_law_328 ?_
  refine lkVi_X (n := 3) (As := [.int (xs (nI i + 1).toNatClampNeg), .int (xs (nI i + 2).toNatClampNeg), .int (xs (nI i + 3).toNatClampNeg)]) (rest := []) (ci := 11) (q0 := 0) C (c_X11_tells l g H.size σ _ _ _ e1) (List.forall_mem_cons.mpr ⟨tb_in 597 (by decide +kernel) (by decide +kernel), List.forall_mem_cons.mpr ⟨tb_in 598 (by decide +kernel) (by decide +kernel), List.forall_mem_cons.mpr ⟨tb_in 599 (by decide +kernel) (by decide +kernel), List.forall_mem_cons.mpr ⟨tb_in 57 (by decide +kernel) (by decide +kernel), List.forall_mem_cons.mpr ⟨tb_in 600 (by decide +kernel) (by decide +kernel), fun _ h => absurd h List.not_mem_nil⟩⟩⟩⟩⟩) ⟨rfl, rfl⟩ ⟨Nat.le_of_ble_eq_true rfl, Nat.le_of_ble_eq_true rfl⟩ (by decide +kernel) rfl rfl rfl hl.1 (Nat.le_of_ble_eq_true rfl) ⟨Nat.le_of_ble_eq_true rfl, Nat.le_of_ble_eq_true rfl⟩ dL_law_329 hP hPM hS rfl (fun H locs hP hPM hS => ?_)
  refine lv_aload_n C.1 C.2.1 dL_law_332 rfl (lv_at hl 1 rfl) ?_
  refine lv_aload_n C.1 C.2.1 dL_law_333 rfl (lv_at hl 3 rfl) ?_
  refine lv_iload_n C.1 C.2.1 dL_law_334 rfl (lv_at hl 0 rfl) ?_
  refine lv_iconst (v := 1) C.1 C.2.1 dL_law_335 (by decide) ?_
  refine lv_iadd C.1 C.2.1 dL_law_336 ?_
  refine va_sld C.1 C.2.1 hX hbl (Nat.not_le.mpr hbl) hS v1 dL_law_337 ?_
  refine lv_aload_n C.1 C.2.1 dL_law_338 rfl (lv_at hl 3 rfl) ?_
  refine lv_iload_n C.1 C.2.1 dL_law_339 rfl (lv_at hl 0 rfl) ?_
  refine lv_iconst (v := 2) C.1 C.2.1 dL_law_340 (by decide) ?_
  refine lv_iadd C.1 C.2.1 dL_law_341 ?_
  refine va_sld C.1 C.2.1 hX hbl (Nat.not_le.mpr hbl) hS v2 dL_law_342 ?_
  refine lv_aload_n C.1 C.2.1 dL_law_343 rfl (lv_at hl 3 rfl) ?_
  refine lv_iload_n C.1 C.2.1 dL_law_344 rfl (lv_at hl 0 rfl) ?_
  refine lv_iconst (v := 3) C.1 C.2.1 dL_law_345 (by decide) ?_
  refine lv_iadd C.1 C.2.1 dL_law_346 ?_
  refine va_sld C.1 C.2.1 hX hbl (Nat.not_le.mpr hbl) hS v3 dL_law_347 ?_
  refine lkVi_M (n := 3) (As := [.int (xs (nI i + 1).toNatClampNeg), .int (xs (nI i + 2).toNatClampNeg), .int (xs (nI i + 3).toNatClampNeg)]) (rest := [.int r]) (ci := 12) (q0 := 0) C2 (c_X12_tells l g H.size N μ _ _ _ e2) (List.forall_mem_cons.mpr ⟨tb_in 902 (by decide +kernel) (by decide +kernel), List.forall_mem_cons.mpr ⟨tb_in 903 (by decide +kernel) (by decide +kernel), List.forall_mem_cons.mpr ⟨tb_in 904 (by decide +kernel) (by decide +kernel), List.forall_mem_cons.mpr ⟨tb_in 69 (by decide +kernel) (by decide +kernel), List.forall_mem_cons.mpr ⟨tb_in 905 (by decide +kernel) (by decide +kernel), fun _ h => absurd h List.not_mem_nil⟩⟩⟩⟩⟩) ⟨rfl, rfl⟩ ⟨Nat.le_of_ble_eq_true rfl, Nat.le_of_ble_eq_true rfl⟩ (by decide +kernel) rfl rfl rfl hl.1 (Nat.le_of_ble_eq_true rfl) ⟨Nat.le_of_ble_eq_true rfl, Nat.le_of_ble_eq_true rfl⟩ dL_law_348 hPM hP hS rfl (fun H locs hPM hP hS => ?_)
  refine lv_icmp_eq (tgt := 841) C.1 C.2.1 dL_law_351 (by decide) (fun c1 => ?_) (fun c1 => absurd rfl c1)
  exact kk _ _ _ _ _ hR2 hP hPM hS
theorem lk_seen (C : CX g (fun q : Nat => s.heap.size ≤ q) p s m #[Value.ref b] meth c cL_law 4 RL) (C2 : CM g (fun q : Nat => s.heap.size ≤ q) p s m #[Value.ref b] meth c cL_law 4 RL) (hX : va_X b L xs s s.heap) (hbl : b < s.heap.size) (hi : i + 5 ≤ L) (hL : L ≤ 2560) (hN : 5000 ≤ N) (hn : n < 1000000) (hR : RelE n σ μ) (hl : lv_has ls 4 [(3, .int (nI i)), (2, .ref (g.2.2 31)), (1, .ref (g.2.2 0)), (0, .ref b)]) (hP : va_P g.1 vwCl (wX g σ) H) (hPM : va_P g.1 vwCl (wM g h μ) H) (hS : va_S (fun q : Nat => s.heap.size ≤ q) s.heap H locs) (kk : ∀ (σ2 μ2 : St) (h2 : Int64) (H1 : Heap) (locs1 : List Loc), RelE (n + 1) σ2 μ2 → va_P g.1 vwCl (wX g σ2) H1 → va_P g.1 vwCl (wM g h2 μ2) H1 → va_S (fun q : Nat => s.heap.size ≤ q) s.heap H1 locs1 → W p l e room_1 s m #[Value.ref b] below meth c H1 locs1 41 10789 Q (F0 m 841 ls [])) : W p l e room_1 s m #[Value.ref b] below meth c H locs 41 10789 Q (F0 m 356 ls []) := by
  have v1 : vp_in (nI i + 1) L := lw_in (k := 1) (by omega) (nI_1 i) hi hL
  have v2 : vp_in (nI i + 2) L := lw_in (k := 2) (by omega) (nI_p2 i) hi hL
  obtain ⟨r, τ, ν, e1, e2, hR2⟩ := q_seen hR (xs (nI i + 1).toNatClampNeg) (xs (nI i + 2).toNatClampNeg)
  obtain ⟨e1, t1⟩ := pu_s e1
  rw [t1] at hR2
  obtain ⟨e2, t2⟩ := pu_s e2
  rw [t2] at hR2
  refine lv_aload_n C.1 C.2.1 dL_law_356 rfl (lv_at hl 2 rfl) ?_
  refine lv_aload_n C.1 C.2.1 dL_law_357 rfl (lv_at hl 3 rfl) ?_
  refine lv_iload_n C.1 C.2.1 dL_law_358 rfl (lv_at hl 0 rfl) ?_
  refine lv_iconst (v := 1) C.1 C.2.1 dL_law_359 (by decide) ?_
  refine lv_iadd C.1 C.2.1 dL_law_360 ?_
  refine va_sld C.1 C.2.1 hX hbl (Nat.not_le.mpr hbl) hS v1 dL_law_361 ?_
  refine lv_aload_n C.1 C.2.1 dL_law_362 rfl (lv_at hl 3 rfl) ?_
  refine lv_iload_n C.1 C.2.1 dL_law_363 rfl (lv_at hl 0 rfl) ?_
  refine lv_iconst (v := 2) C.1 C.2.1 dL_law_364 (by decide) ?_
  refine lv_iadd C.1 C.2.1 dL_law_365 ?_
  refine va_sld C.1 C.2.1 hX hbl (Nat.not_le.mpr hbl) hS v2 dL_law_366 ?_
  refine lkVi_X (n := 2) (As := [.int (xs (nI i + 1).toNatClampNeg), .int (xs (nI i + 2).toNatClampNeg)]) (rest := []) (ci := 11) (q0 := 0) C (c_X11_seen l g H.size σ _ _ e1) (List.forall_mem_cons.mpr ⟨tb_in 601 (by decide +kernel) (by decide +kernel), List.forall_mem_cons.mpr ⟨tb_in 602 (by decide +kernel) (by decide +kernel), List.forall_mem_cons.mpr ⟨tb_in 603 (by decide +kernel) (by decide +kernel), List.forall_mem_cons.mpr ⟨tb_in 57 (by decide +kernel) (by decide +kernel), List.forall_mem_cons.mpr ⟨tb_in 604 (by decide +kernel) (by decide +kernel), fun _ h => absurd h List.not_mem_nil⟩⟩⟩⟩⟩) ⟨rfl, rfl⟩ ⟨Nat.le_of_ble_eq_true rfl, Nat.le_of_ble_eq_true rfl⟩ (by decide +kernel) rfl rfl rfl hl.1 (Nat.le_of_ble_eq_true rfl) ⟨Nat.le_of_ble_eq_true rfl, Nat.le_of_ble_eq_true rfl⟩ dL_law_367 hP hPM hS rfl (fun H locs hP hPM hS => ?_)
  refine lv_aload_n C.1 C.2.1 dL_law_370 rfl (lv_at hl 1 rfl) ?_
  refine lv_aload_n C.1 C.2.1 dL_law_371 rfl (lv_at hl 3 rfl) ?_
  refine lv_iload_n C.1 C.2.1 dL_law_372 rfl (lv_at hl 0 rfl) ?_
  refine lv_iconst (v := 1) C.1 C.2.1 dL_law_373 (by decide) ?_
  refine lv_iadd C.1 C.2.1 dL_law_374 ?_
  refine va_sld C.1 C.2.1 hX hbl (Nat.not_le.mpr hbl) hS v1 dL_law_375 ?_
  refine lv_aload_n C.1 C.2.1 dL_law_376 rfl (lv_at hl 3 rfl) ?_
  refine lv_iload_n C.1 C.2.1 dL_law_377 rfl (lv_at hl 0 rfl) ?_
  refine lv_iconst (v := 2) C.1 C.2.1 dL_law_378 (by decide) ?_
  refine lv_iadd C.1 C.2.1 dL_law_379 ?_
  refine va_sld C.1 C.2.1 hX hbl (Nat.not_le.mpr hbl) hS v2 dL_law_380 ?_
  refine lkVi_M (n := 2) (As := [.int (xs (nI i + 1).toNatClampNeg), .int (xs (nI i + 2).toNatClampNeg)]) (rest := [.int r]) (ci := 12) (q0 := 0) C2 (c_X12_seen l g H.size μ _ _ e2) (List.forall_mem_cons.mpr ⟨tb_in 1003 (by decide +kernel) (by decide +kernel), List.forall_mem_cons.mpr ⟨tb_in 1004 (by decide +kernel) (by decide +kernel), List.forall_mem_cons.mpr ⟨tb_in 1005 (by decide +kernel) (by decide +kernel), List.forall_mem_cons.mpr ⟨tb_in 69 (by decide +kernel) (by decide +kernel), List.forall_mem_cons.mpr ⟨tb_in 1006 (by decide +kernel) (by decide +kernel), fun _ h => absurd h List.not_mem_nil⟩⟩⟩⟩⟩) ⟨rfl, rfl⟩ ⟨Nat.le_of_ble_eq_true rfl, Nat.le_of_ble_eq_true rfl⟩ (by decide +kernel) rfl rfl rfl hl.1 (Nat.le_of_ble_eq_true rfl) ⟨Nat.le_of_ble_eq_true rfl, Nat.le_of_ble_eq_true rfl⟩ dL_law_381 hPM hP hS rfl (fun H locs hPM hP hS => ?_)
  refine lv_icmp_eq (tgt := 841) C.1 C.2.1 dL_law_384 (by decide) (fun c1 => ?_) (fun c1 => absurd rfl c1)
  exact kk _ _ _ _ _ hR2 hP hPM hS
theorem lk_show (C : CX g (fun q : Nat => s.heap.size ≤ q) p s m #[Value.ref b] meth c cL_law 4 RL) (C2 : CM g (fun q : Nat => s.heap.size ≤ q) p s m #[Value.ref b] meth c cL_law 4 RL) (hX : va_X b L xs s s.heap) (hbl : b < s.heap.size) (hi : i + 5 ≤ L) (hL : L ≤ 2560) (hN : 5000 ≤ N) (hn : n < 1000000) (hR : RelE n σ μ) (hl : lv_has ls 4 [(3, .int (nI i)), (2, .ref (g.2.2 31)), (1, .ref (g.2.2 0)), (0, .ref b)]) (hP : va_P g.1 vwCl (wX g σ) H) (hPM : va_P g.1 vwCl (wM g h μ) H) (hS : va_S (fun q : Nat => s.heap.size ≤ q) s.heap H locs) (kk : ∀ (σ2 μ2 : St) (h2 : Int64) (H1 : Heap) (locs1 : List Loc), RelE (n + 1) σ2 μ2 → va_P g.1 vwCl (wX g σ2) H1 → va_P g.1 vwCl (wM g h2 μ2) H1 → va_S (fun q : Nat => s.heap.size ≤ q) s.heap H1 locs1 → W p l e room_1 s m #[Value.ref b] below meth c H1 locs1 41 10789 Q (F0 m 841 ls [])) : W p l e room_1 s m #[Value.ref b] below meth c H locs 41 10789 Q (F0 m 389 ls []) := by
  have v1 : vp_in (nI i + 1) L := lw_in (k := 1) (by omega) (nI_1 i) hi hL
  have v2 : vp_in (nI i + 2) L := lw_in (k := 2) (by omega) (nI_p2 i) hi hL
  obtain ⟨r, τ, ν, e1, e2, hR2⟩ := q_show (N := N) hN hR (xs (nI i + 1).toNatClampNeg) (xs (nI i + 2).toNatClampNeg)
  refine lv_aload_n C.1 C.2.1 dL_law_389 rfl (lv_at hl 2 rfl) ?_
  refine lv_aload_n C.1 C.2.1 dL_law_390 rfl (lv_at hl 3 rfl) ?_
  refine lv_iload_n C.1 C.2.1 dL_law_391 rfl (lv_at hl 0 rfl) ?_
  refine lv_iconst (v := 1) C.1 C.2.1 dL_law_392 (by decide) ?_
  refine lv_iadd C.1 C.2.1 dL_law_393 ?_
  refine va_sld C.1 C.2.1 hX hbl (Nat.not_le.mpr hbl) hS v1 dL_law_394 ?_
  refine lv_aload_n C.1 C.2.1 dL_law_395 rfl (lv_at hl 3 rfl) ?_
  refine lv_iload_n C.1 C.2.1 dL_law_396 rfl (lv_at hl 0 rfl) ?_
  refine lv_iconst (v := 2) C.1 C.2.1 dL_law_397 (by decide) ?_
  refine lv_iadd C.1 C.2.1 dL_law_398 ?_
  refine va_sld C.1 C.2.1 hX hbl (Nat.not_le.mpr hbl) hS v2 dL_law_399 ?_
  refine lkVi_X (n := 2) (As := [.int (xs (nI i + 1).toNatClampNeg), .int (xs (nI i + 2).toNatClampNeg)]) (rest := []) (ci := 11) (q0 := 0) C (c_X11_show l g H.size σ _ _ e1) (List.forall_mem_cons.mpr ⟨tb_in 605 (by decide +kernel) (by decide +kernel), List.forall_mem_cons.mpr ⟨tb_in 606 (by decide +kernel) (by decide +kernel), List.forall_mem_cons.mpr ⟨tb_in 607 (by decide +kernel) (by decide +kernel), List.forall_mem_cons.mpr ⟨tb_in 57 (by decide +kernel) (by decide +kernel), List.forall_mem_cons.mpr ⟨tb_in 608 (by decide +kernel) (by decide +kernel), fun _ h => absurd h List.not_mem_nil⟩⟩⟩⟩⟩) ⟨rfl, rfl⟩ ⟨Nat.le_of_ble_eq_true rfl, Nat.le_of_ble_eq_true rfl⟩ (by decide +kernel) rfl rfl rfl hl.1 (Nat.le_of_ble_eq_true rfl) ⟨Nat.le_of_ble_eq_true rfl, Nat.le_of_ble_eq_true rfl⟩ dL_law_400 hP hPM hS rfl (fun H locs hP hPM hS => ?_)
  refine lv_aload_n C.1 C.2.1 dL_law_403 rfl (lv_at hl 1 rfl) ?_
  refine lv_aload_n C.1 C.2.1 dL_law_404 rfl (lv_at hl 3 rfl) ?_
  refine lv_iload_n C.1 C.2.1 dL_law_405 rfl (lv_at hl 0 rfl) ?_
  refine lv_iconst (v := 1) C.1 C.2.1 dL_law_406 (by decide) ?_
  refine lv_iadd C.1 C.2.1 dL_law_407 ?_
  refine va_sld C.1 C.2.1 hX hbl (Nat.not_le.mpr hbl) hS v1 dL_law_408 ?_
  refine lv_aload_n C.1 C.2.1 dL_law_409 rfl (lv_at hl 3 rfl) ?_
  refine lv_iload_n C.1 C.2.1 dL_law_410 rfl (lv_at hl 0 rfl) ?_
  refine lv_iconst (v := 2) C.1 C.2.1 dL_law_411 (by decide) ?_
  refine lv_iadd C.1 C.2.1 dL_law_412 ?_
  refine va_sld C.1 C.2.1 hX hbl (Nat.not_le.mpr hbl) hS v2 dL_law_413 ?_
  refine lkVi_M (n := 2) (As := [.int (xs (nI i + 1).toNatClampNeg), .int (xs (nI i + 2).toNatClampNeg)]) (rest := [.int r]) (ci := 12) (q0 := 0) C2 (c_X12_show l g H.size N μ _ _ e2) (List.forall_mem_cons.mpr ⟨tb_in 1008 (by decide +kernel) (by decide +kernel), List.forall_mem_cons.mpr ⟨tb_in 1009 (by decide +kernel) (by decide +kernel), List.forall_mem_cons.mpr ⟨tb_in 1010 (by decide +kernel) (by decide +kernel), List.forall_mem_cons.mpr ⟨tb_in 69 (by decide +kernel) (by decide +kernel), List.forall_mem_cons.mpr ⟨tb_in 1011 (by decide +kernel) (by decide +kernel), fun _ h => absurd h List.not_mem_nil⟩⟩⟩⟩⟩) ⟨rfl, rfl⟩ ⟨Nat.le_of_ble_eq_true rfl, Nat.le_of_ble_eq_true rfl⟩ (by decide +kernel) rfl rfl rfl hl.1 (Nat.le_of_ble_eq_true rfl) ⟨Nat.le_of_ble_eq_true rfl, Nat.le_of_ble_eq_true rfl⟩ dL_law_414 hPM hP hS rfl (fun H locs hPM hP hS => ?_)
  refine lv_icmp_eq (tgt := 841) C.1 C.2.1 dL_law_417 (by decide) (fun c1 => ?_) (fun c1 => absurd rfl c1)
  exact kk _ _ _ _ _ hR2 hP hPM hS
theorem lk_note (C : CX g (fun q : Nat => s.heap.size ≤ q) p s m #[Value.ref b] meth c cL_law 4 RL) (C2 : CM g (fun q : Nat => s.heap.size ≤ q) p s m #[Value.ref b] meth c cL_law 4 RL) (hX : va_X b L xs s s.heap) (hbl : b < s.heap.size) (hi : i + 5 ≤ L) (hL : L ≤ 2560) (hN : 5000 ≤ N) (hn : n < 1000000) (hR : RelE n σ μ) (hl : lv_has ls 4 [(3, .int (nI i)), (2, .ref (g.2.2 31)), (1, .ref (g.2.2 0)), (0, .ref b)]) (hP : va_P g.1 vwCl (wX g σ) H) (hPM : va_P g.1 vwCl (wM g h μ) H) (hS : va_S (fun q : Nat => s.heap.size ≤ q) s.heap H locs) (kk : ∀ (σ2 μ2 : St) (h2 : Int64) (H1 : Heap) (locs1 : List Loc), RelE (n + 1) σ2 μ2 → va_P g.1 vwCl (wX g σ2) H1 → va_P g.1 vwCl (wM g h2 μ2) H1 → va_S (fun q : Nat => s.heap.size ≤ q) s.heap H1 locs1 → W p l e room_1 s m #[Value.ref b] below meth c H1 locs1 41 10789 Q (F0 m 841 ls [])) : W p l e room_1 s m #[Value.ref b] below meth c H locs 41 10789 Q (F0 m 422 ls []) := by
  have v1 : vp_in (nI i + 1) L := lw_in (k := 1) (by omega) (nI_1 i) hi hL
  have v2 : vp_in (nI i + 2) L := lw_in (k := 2) (by omega) (nI_p2 i) hi hL
  have v3 : vp_in (nI i + 3) L := lw_in (k := 3) (by omega) (nI_p3 i) hi hL
  obtain ⟨r, τ, ν, e1, e2, hR2⟩ := q_note (N := N) hN hR (xs (nI i + 1).toNatClampNeg) (xs (nI i + 2).toNatClampNeg) (xs (nI i + 3).toNatClampNeg)
  refine lv_aload_n C.1 C.2.1 dL_law_422 rfl (lv_at hl 2 rfl) ?_
  refine lv_aload_n C.1 C.2.1 dL_law_423 rfl (lv_at hl 3 rfl) ?_
  refine lv_iload_n C.1 C.2.1 dL_law_424 rfl (lv_at hl 0 rfl) ?_
  refine lv_iconst (v := 1) C.1 C.2.1 dL_law_425 (by decide) ?_
  refine lv_iadd C.1 C.2.1 dL_law_426 ?_
  refine va_sld C.1 C.2.1 hX hbl (Nat.not_le.mpr hbl) hS v1 dL_law_427 ?_
  refine lv_aload_n C.1 C.2.1 dL_law_428 rfl (lv_at hl 3 rfl) ?_
  refine lv_iload_n C.1 C.2.1 dL_law_429 rfl (lv_at hl 0 rfl) ?_
  refine lv_iconst (v := 2) C.1 C.2.1 dL_law_430 (by decide) ?_
  refine lv_iadd C.1 C.2.1 dL_law_431 ?_
  refine va_sld C.1 C.2.1 hX hbl (Nat.not_le.mpr hbl) hS v2 dL_law_432 ?_
  refine lv_aload_n C.1 C.2.1 dL_law_433 rfl (lv_at hl 3 rfl) ?_
  refine lv_iload_n C.1 C.2.1 dL_law_434 rfl (lv_at hl 0 rfl) ?_
  refine lv_iconst (v := 3) C.1 C.2.1 dL_law_435 (by decide) ?_
  refine lv_iadd C.1 C.2.1 dL_law_436 ?_
  refine va_sld C.1 C.2.1 hX hbl (Nat.not_le.mpr hbl) hS v3 dL_law_437 ?_
  refine lkVi_X (n := 3) (As := [.int (xs (nI i + 1).toNatClampNeg), .int (xs (nI i + 2).toNatClampNeg), .int (xs (nI i + 3).toNatClampNeg)]) (rest := []) (ci := 11) (q0 := 0) C (c_X11_note l g H.size N σ _ _ _ e1) (List.forall_mem_cons.mpr ⟨tb_in 613 (by decide +kernel) (by decide +kernel), List.forall_mem_cons.mpr ⟨tb_in 614 (by decide +kernel) (by decide +kernel), List.forall_mem_cons.mpr ⟨tb_in 615 (by decide +kernel) (by decide +kernel), List.forall_mem_cons.mpr ⟨tb_in 57 (by decide +kernel) (by decide +kernel), List.forall_mem_cons.mpr ⟨tb_in 616 (by decide +kernel) (by decide +kernel), fun _ h => absurd h List.not_mem_nil⟩⟩⟩⟩⟩) ⟨rfl, rfl⟩ ⟨Nat.le_of_ble_eq_true rfl, Nat.le_of_ble_eq_true rfl⟩ (by decide +kernel) rfl rfl rfl hl.1 (Nat.le_of_ble_eq_true rfl) ⟨Nat.le_of_ble_eq_true rfl, Nat.le_of_ble_eq_true rfl⟩ dL_law_438 hP hPM hS rfl (fun H locs hP hPM hS => ?_)
  refine lv_aload_n C.1 C.2.1 dL_law_441 rfl (lv_at hl 1 rfl) ?_
  refine lv_aload_n C.1 C.2.1 dL_law_442 rfl (lv_at hl 3 rfl) ?_
  refine lv_iload_n C.1 C.2.1 dL_law_443 rfl (lv_at hl 0 rfl) ?_
  refine lv_iconst (v := 1) C.1 C.2.1 dL_law_444 (by decide) ?_
  refine lv_iadd C.1 C.2.1 dL_law_445 ?_
  refine va_sld C.1 C.2.1 hX hbl (Nat.not_le.mpr hbl) hS v1 dL_law_446 ?_
  refine lv_aload_n C.1 C.2.1 dL_law_447 rfl (lv_at hl 3 rfl) ?_
  refine lv_iload_n C.1 C.2.1 dL_law_448 rfl (lv_at hl 0 rfl) ?_
  refine lv_iconst (v := 2) C.1 C.2.1 dL_law_449 (by decide) ?_
  refine lv_iadd C.1 C.2.1 dL_law_450 ?_
  refine va_sld C.1 C.2.1 hX hbl (Nat.not_le.mpr hbl) hS v2 dL_law_451 ?_
  refine lv_aload_n C.1 C.2.1 dL_law_452 rfl (lv_at hl 3 rfl) ?_
  refine lv_iload_n C.1 C.2.1 dL_law_453 rfl (lv_at hl 0 rfl) ?_
  refine lv_iconst (v := 3) C.1 C.2.1 dL_law_454 (by decide) ?_
  refine lv_iadd C.1 C.2.1 dL_law_455 ?_
  refine va_sld C.1 C.2.1 hX hbl (Nat.not_le.mpr hbl) hS v3 dL_law_456 ?_
  refine lkVi_M (n := 3) (As := [.int (xs (nI i + 1).toNatClampNeg), .int (xs (nI i + 2).toNatClampNeg), .int (xs (nI i + 3).toNatClampNeg)]) (rest := [.int r]) (ci := 12) (q0 := 0) C2 (c_X12_note l g H.size N μ _ _ _ e2) (List.forall_mem_cons.mpr ⟨tb_in 1016 (by decide +kernel) (by decide +kernel), List.forall_mem_cons.mpr ⟨tb_in 1017 (by decide +kernel) (by decide +kernel), List.forall_mem_cons.mpr ⟨tb_in 1018 (by decide +kernel) (by decide +kernel), List.forall_mem_cons.mpr ⟨tb_in 69 (by decide +kernel) (by decide +kernel), List.forall_mem_cons.mpr ⟨tb_in 1019 (by decide +kernel) (by decide +kernel), fun _ h => absurd h List.not_mem_nil⟩⟩⟩⟩⟩) ⟨rfl, rfl⟩ ⟨Nat.le_of_ble_eq_true rfl, Nat.le_of_ble_eq_true rfl⟩ (by decide +kernel) rfl rfl rfl hl.1 (Nat.le_of_ble_eq_true rfl) ⟨Nat.le_of_ble_eq_true rfl, Nat.le_of_ble_eq_true rfl⟩ dL_law_457 hPM hP hS rfl (fun H locs hPM hP hS => ?_)
  refine lv_icmp_eq (tgt := 841) C.1 C.2.1 dL_law_460 (by decide) (fun c1 => ?_) (fun c1 => absurd rfl c1)
  exact kk _ _ _ _ _ hR2 hP hPM hS
theorem lk_strike (C : CX g (fun q : Nat => s.heap.size ≤ q) p s m #[Value.ref b] meth c cL_law 4 RL) (C2 : CM g (fun q : Nat => s.heap.size ≤ q) p s m #[Value.ref b] meth c cL_law 4 RL) (hX : va_X b L xs s s.heap) (hbl : b < s.heap.size) (hi : i + 5 ≤ L) (hL : L ≤ 2560) (hN : 5000 ≤ N) (hn : n < 1000000) (hR : RelE n σ μ) (hl : lv_has ls 4 [(3, .int (nI i)), (2, .ref (g.2.2 31)), (1, .ref (g.2.2 0)), (0, .ref b)]) (hP : va_P g.1 vwCl (wX g σ) H) (hPM : va_P g.1 vwCl (wM g h μ) H) (hS : va_S (fun q : Nat => s.heap.size ≤ q) s.heap H locs) (kk : ∀ (σ2 μ2 : St) (h2 : Int64) (H1 : Heap) (locs1 : List Loc), RelE (n + 1) σ2 μ2 → va_P g.1 vwCl (wX g σ2) H1 → va_P g.1 vwCl (wM g h2 μ2) H1 → va_S (fun q : Nat => s.heap.size ≤ q) s.heap H1 locs1 → W p l e room_1 s m #[Value.ref b] below meth c H1 locs1 41 10789 Q (F0 m 841 ls [])) : W p l e room_1 s m #[Value.ref b] below meth c H locs 41 10789 Q (F0 m 465 ls []) := by
  obtain ⟨r, τ, ν, e1, e2, hR2⟩ := q_strike hR 
  refine lv_aload_n C.1 C.2.1 dL_law_465 rfl (lv_at hl 2 rfl) ?_
  refine lkVi_X (n := 0) (As := []) (rest := []) (ci := 11) (q0 := 0) C (c_X11_strike l g H.size σ e1) (List.forall_mem_cons.mpr ⟨tb_in 630 (by decide +kernel) (by decide +kernel), List.forall_mem_cons.mpr ⟨tb_in 631 (by decide +kernel) (by decide +kernel), List.forall_mem_cons.mpr ⟨tb_in 632 (by decide +kernel) (by decide +kernel), List.forall_mem_cons.mpr ⟨tb_in 57 (by decide +kernel) (by decide +kernel), List.forall_mem_cons.mpr ⟨tb_in 633 (by decide +kernel) (by decide +kernel), fun _ h => absurd h List.not_mem_nil⟩⟩⟩⟩⟩) ⟨rfl, rfl⟩ ⟨Nat.le_of_ble_eq_true rfl, Nat.le_of_ble_eq_true rfl⟩ (by decide +kernel) rfl rfl rfl hl.1 (Nat.le_of_ble_eq_true rfl) ⟨Nat.le_of_ble_eq_true rfl, Nat.le_of_ble_eq_true rfl⟩ dL_law_466 hP hPM hS rfl (fun H locs hP hPM hS => ?_)
  refine lv_aload_n C.1 C.2.1 dL_law_469 rfl (lv_at hl 1 rfl) ?_
  refine lkVi_M (n := 0) (As := []) (rest := [.int r]) (ci := 12) (q0 := 0) C2 (c_X12_strike l g H.size μ e2) (List.forall_mem_cons.mpr ⟨tb_in 1021 (by decide +kernel) (by decide +kernel), List.forall_mem_cons.mpr ⟨tb_in 1022 (by decide +kernel) (by decide +kernel), List.forall_mem_cons.mpr ⟨tb_in 1023 (by decide +kernel) (by decide +kernel), List.forall_mem_cons.mpr ⟨tb_in 69 (by decide +kernel) (by decide +kernel), List.forall_mem_cons.mpr ⟨tb_in 1024 (by decide +kernel) (by decide +kernel), fun _ h => absurd h List.not_mem_nil⟩⟩⟩⟩⟩) ⟨rfl, rfl⟩ ⟨Nat.le_of_ble_eq_true rfl, Nat.le_of_ble_eq_true rfl⟩ (by decide +kernel) rfl rfl rfl hl.1 (Nat.le_of_ble_eq_true rfl) ⟨Nat.le_of_ble_eq_true rfl, Nat.le_of_ble_eq_true rfl⟩ dL_law_470 hPM hP hS rfl (fun H locs hPM hP hS => ?_)
  refine lv_icmp_eq (tgt := 841) C.1 C.2.1 dL_law_473 (by decide) (fun c1 => ?_) (fun c1 => absurd rfl c1)
  exact kk _ _ _ _ _ hR2 hP hPM hS
theorem lk_forget (C : CX g (fun q : Nat => s.heap.size ≤ q) p s m #[Value.ref b] meth c cL_law 4 RL) (C2 : CM g (fun q : Nat => s.heap.size ≤ q) p s m #[Value.ref b] meth c cL_law 4 RL) (hX : va_X b L xs s s.heap) (hbl : b < s.heap.size) (hi : i + 5 ≤ L) (hL : L ≤ 2560) (hN : 5000 ≤ N) (hn : n < 1000000) (hR : RelE n σ μ) (hl : lv_has ls 4 [(3, .int (nI i)), (2, .ref (g.2.2 31)), (1, .ref (g.2.2 0)), (0, .ref b)]) (hP : va_P g.1 vwCl (wX g σ) H) (hPM : va_P g.1 vwCl (wM g h μ) H) (hS : va_S (fun q : Nat => s.heap.size ≤ q) s.heap H locs) (kk : ∀ (σ2 μ2 : St) (h2 : Int64) (H1 : Heap) (locs1 : List Loc), RelE (n + 1) σ2 μ2 → va_P g.1 vwCl (wX g σ2) H1 → va_P g.1 vwCl (wM g h2 μ2) H1 → va_S (fun q : Nat => s.heap.size ≤ q) s.heap H1 locs1 → W p l e room_1 s m #[Value.ref b] below meth c H1 locs1 41 10789 Q (F0 m 841 ls [])) : W p l e room_1 s m #[Value.ref b] below meth c H locs 41 10789 Q (F0 m 478 ls []) := by
  obtain ⟨r, τ, ν, e1, e2, hR2⟩ := q_forget hR 
  refine lv_aload_n C.1 C.2.1 dL_law_478 rfl (lv_at hl 2 rfl) ?_
  refine lkVi_X (n := 0) (As := []) (rest := []) (ci := 11) (q0 := 0) C (c_X11_forget l g H.size σ e1) (List.forall_mem_cons.mpr ⟨tb_in 634 (by decide +kernel) (by decide +kernel), List.forall_mem_cons.mpr ⟨tb_in 635 (by decide +kernel) (by decide +kernel), List.forall_mem_cons.mpr ⟨tb_in 636 (by decide +kernel) (by decide +kernel), List.forall_mem_cons.mpr ⟨tb_in 57 (by decide +kernel) (by decide +kernel), List.forall_mem_cons.mpr ⟨tb_in 637 (by decide +kernel) (by decide +kernel), fun _ h => absurd h List.not_mem_nil⟩⟩⟩⟩⟩) ⟨rfl, rfl⟩ ⟨Nat.le_of_ble_eq_true rfl, Nat.le_of_ble_eq_true rfl⟩ (by decide +kernel) rfl rfl rfl hl.1 (Nat.le_of_ble_eq_true rfl) ⟨Nat.le_of_ble_eq_true rfl, Nat.le_of_ble_eq_true rfl⟩ dL_law_479 hP hPM hS rfl (fun H locs hP hPM hS => ?_)
  refine lv_aload_n C.1 C.2.1 dL_law_482 rfl (lv_at hl 1 rfl) ?_
  refine lkVi_M (n := 0) (As := []) (rest := [.int r]) (ci := 12) (q0 := 0) C2 (c_X12_forget l g H.size μ e2) (List.forall_mem_cons.mpr ⟨tb_in 1025 (by decide +kernel) (by decide +kernel), List.forall_mem_cons.mpr ⟨tb_in 1026 (by decide +kernel) (by decide +kernel), List.forall_mem_cons.mpr ⟨tb_in 1027 (by decide +kernel) (by decide +kernel), List.forall_mem_cons.mpr ⟨tb_in 69 (by decide +kernel) (by decide +kernel), List.forall_mem_cons.mpr ⟨tb_in 1028 (by decide +kernel) (by decide +kernel), fun _ h => absurd h List.not_mem_nil⟩⟩⟩⟩⟩) ⟨rfl, rfl⟩ ⟨Nat.le_of_ble_eq_true rfl, Nat.le_of_ble_eq_true rfl⟩ (by decide +kernel) rfl rfl rfl hl.1 (Nat.le_of_ble_eq_true rfl) ⟨Nat.le_of_ble_eq_true rfl, Nat.le_of_ble_eq_true rfl⟩ dL_law_483 hPM hP hS rfl (fun H locs hPM hP hS => ?_)
  refine lv_icmp_eq (tgt := 841) C.1 C.2.1 dL_law_486 (by decide) (fun c1 => ?_) (fun c1 => absurd rfl c1)
  exact kk _ _ _ _ _ hR2 hP hPM hS
theorem lk_hide (C : CX g (fun q : Nat => s.heap.size ≤ q) p s m #[Value.ref b] meth c cL_law 4 RL) (C2 : CM g (fun q : Nat => s.heap.size ≤ q) p s m #[Value.ref b] meth c cL_law 4 RL) (hX : va_X b L xs s s.heap) (hbl : b < s.heap.size) (hi : i + 5 ≤ L) (hL : L ≤ 2560) (hN : 5000 ≤ N) (hn : n < 1000000) (hR : RelE n σ μ) (hl : lv_has ls 4 [(3, .int (nI i)), (2, .ref (g.2.2 31)), (1, .ref (g.2.2 0)), (0, .ref b)]) (hP : va_P g.1 vwCl (wX g σ) H) (hPM : va_P g.1 vwCl (wM g h μ) H) (hS : va_S (fun q : Nat => s.heap.size ≤ q) s.heap H locs) (kk : ∀ (σ2 μ2 : St) (h2 : Int64) (H1 : Heap) (locs1 : List Loc), RelE (n + 1) σ2 μ2 → va_P g.1 vwCl (wX g σ2) H1 → va_P g.1 vwCl (wM g h2 μ2) H1 → va_S (fun q : Nat => s.heap.size ≤ q) s.heap H1 locs1 → W p l e room_1 s m #[Value.ref b] below meth c H1 locs1 41 10789 Q (F0 m 841 ls [])) : W p l e room_1 s m #[Value.ref b] below meth c H locs 41 10789 Q (F0 m 491 ls []) := by
  have v1 : vp_in (nI i + 1) L := lw_in (k := 1) (by omega) (nI_1 i) hi hL
  obtain ⟨r, τ, ν, e1, e2, hR2⟩ := q_hide hR (xs (nI i + 1).toNatClampNeg)
  refine lv_aload_n C.1 C.2.1 dL_law_491 rfl (lv_at hl 2 rfl) ?_
  refine lv_aload_n C.1 C.2.1 dL_law_492 rfl (lv_at hl 3 rfl) ?_
  refine lv_iload_n C.1 C.2.1 dL_law_493 rfl (lv_at hl 0 rfl) ?_
  refine lv_iconst (v := 1) C.1 C.2.1 dL_law_494 (by decide) ?_
  refine lv_iadd C.1 C.2.1 dL_law_495 ?_
  refine va_sld C.1 C.2.1 hX hbl (Nat.not_le.mpr hbl) hS v1 dL_law_496 ?_
  refine lkVi_X (n := 1) (As := [.int (xs (nI i + 1).toNatClampNeg)]) (rest := []) (ci := 11) (q0 := 0) C (c_X11_hide l g H.size σ _ e1) (List.forall_mem_cons.mpr ⟨tb_in 638 (by decide +kernel) (by decide +kernel), List.forall_mem_cons.mpr ⟨tb_in 639 (by decide +kernel) (by decide +kernel), List.forall_mem_cons.mpr ⟨tb_in 640 (by decide +kernel) (by decide +kernel), List.forall_mem_cons.mpr ⟨tb_in 57 (by decide +kernel) (by decide +kernel), List.forall_mem_cons.mpr ⟨tb_in 641 (by decide +kernel) (by decide +kernel), fun _ h => absurd h List.not_mem_nil⟩⟩⟩⟩⟩) ⟨rfl, rfl⟩ ⟨Nat.le_of_ble_eq_true rfl, Nat.le_of_ble_eq_true rfl⟩ (by decide +kernel) rfl rfl rfl hl.1 (Nat.le_of_ble_eq_true rfl) ⟨Nat.le_of_ble_eq_true rfl, Nat.le_of_ble_eq_true rfl⟩ dL_law_497 hP hPM hS rfl (fun H locs hP hPM hS => ?_)
  refine lv_aload_n C.1 C.2.1 dL_law_500 rfl (lv_at hl 1 rfl) ?_
  refine lv_aload_n C.1 C.2.1 dL_law_501 rfl (lv_at hl 3 rfl) ?_
  refine lv_iload_n C.1 C.2.1 dL_law_502 rfl (lv_at hl 0 rfl) ?_
  refine lv_iconst (v := 1) C.1 C.2.1 dL_law_503 (by decide) ?_
  refine lv_iadd C.1 C.2.1 dL_law_504 ?_
  refine va_sld C.1 C.2.1 hX hbl (Nat.not_le.mpr hbl) hS v1 dL_law_505 ?_
  refine lkVi_M (n := 1) (As := [.int (xs (nI i + 1).toNatClampNeg)]) (rest := [.int r]) (ci := 12) (q0 := 0) C2 (c_X12_hide l g H.size μ _ e2) (List.forall_mem_cons.mpr ⟨tb_in 1029 (by decide +kernel) (by decide +kernel), List.forall_mem_cons.mpr ⟨tb_in 1030 (by decide +kernel) (by decide +kernel), List.forall_mem_cons.mpr ⟨tb_in 1031 (by decide +kernel) (by decide +kernel), List.forall_mem_cons.mpr ⟨tb_in 69 (by decide +kernel) (by decide +kernel), List.forall_mem_cons.mpr ⟨tb_in 1032 (by decide +kernel) (by decide +kernel), fun _ h => absurd h List.not_mem_nil⟩⟩⟩⟩⟩) ⟨rfl, rfl⟩ ⟨Nat.le_of_ble_eq_true rfl, Nat.le_of_ble_eq_true rfl⟩ (by decide +kernel) rfl rfl rfl hl.1 (Nat.le_of_ble_eq_true rfl) ⟨Nat.le_of_ble_eq_true rfl, Nat.le_of_ble_eq_true rfl⟩ dL_law_506 hPM hP hS rfl (fun H locs hPM hP hS => ?_)
  refine lv_icmp_eq (tgt := 841) C.1 C.2.1 dL_law_509 (by decide) (fun c1 => ?_) (fun c1 => absurd rfl c1)
  exact kk _ _ _ _ _ hR2 hP hPM hS
theorem lk_swap (C : CX g (fun q : Nat => s.heap.size ≤ q) p s m #[Value.ref b] meth c cL_law 4 RL) (C2 : CM g (fun q : Nat => s.heap.size ≤ q) p s m #[Value.ref b] meth c cL_law 4 RL) (hX : va_X b L xs s s.heap) (hbl : b < s.heap.size) (hi : i + 5 ≤ L) (hL : L ≤ 2560) (hN : 5000 ≤ N) (hn : n < 1000000) (hR : RelE n σ μ) (hl : lv_has ls 4 [(3, .int (nI i)), (2, .ref (g.2.2 31)), (1, .ref (g.2.2 0)), (0, .ref b)]) (hP : va_P g.1 vwCl (wX g σ) H) (hPM : va_P g.1 vwCl (wM g h μ) H) (hS : va_S (fun q : Nat => s.heap.size ≤ q) s.heap H locs) (kk : ∀ (σ2 μ2 : St) (h2 : Int64) (H1 : Heap) (locs1 : List Loc), RelE (n + 1) σ2 μ2 → va_P g.1 vwCl (wX g σ2) H1 → va_P g.1 vwCl (wM g h2 μ2) H1 → va_S (fun q : Nat => s.heap.size ≤ q) s.heap H1 locs1 → W p l e room_1 s m #[Value.ref b] below meth c H1 locs1 41 10789 Q (F0 m 841 ls [])) : W p l e room_1 s m #[Value.ref b] below meth c H locs 41 10789 Q (F0 m 514 ls []) := by
  have v1 : vp_in (nI i + 1) L := lw_in (k := 1) (by omega) (nI_1 i) hi hL
  have v2 : vp_in (nI i + 2) L := lw_in (k := 2) (by omega) (nI_p2 i) hi hL
  obtain ⟨r, τ, ν, e1, e2, hR2⟩ := q_swap hR (xs (nI i + 1).toNatClampNeg) (xs (nI i + 2).toNatClampNeg)
  refine lv_aload_n C.1 C.2.1 dL_law_514 rfl (lv_at hl 2 rfl) ?_
  refine lv_aload_n C.1 C.2.1 dL_law_515 rfl (lv_at hl 3 rfl) ?_
  refine lv_iload_n C.1 C.2.1 dL_law_516 rfl (lv_at hl 0 rfl) ?_
  refine lv_iconst (v := 1) C.1 C.2.1 dL_law_517 (by decide) ?_
  refine lv_iadd C.1 C.2.1 dL_law_518 ?_
  refine va_sld C.1 C.2.1 hX hbl (Nat.not_le.mpr hbl) hS v1 dL_law_519 ?_
  refine lv_aload_n C.1 C.2.1 dL_law_520 rfl (lv_at hl 3 rfl) ?_
  refine lv_iload_n C.1 C.2.1 dL_law_521 rfl (lv_at hl 0 rfl) ?_
  refine lv_iconst (v := 2) C.1 C.2.1 dL_law_522 (by decide) ?_
  refine lv_iadd C.1 C.2.1 dL_law_523 ?_
  refine va_sld C.1 C.2.1 hX hbl (Nat.not_le.mpr hbl) hS v2 dL_law_524 ?_
  refine lkVi_X (n := 2) (As := [.int (xs (nI i + 1).toNatClampNeg), .int (xs (nI i + 2).toNatClampNeg)]) (rest := []) (ci := 11) (q0 := 0) C (c_X11_swap l g H.size σ _ _ e1) (List.forall_mem_cons.mpr ⟨tb_in 642 (by decide +kernel) (by decide +kernel), List.forall_mem_cons.mpr ⟨tb_in 643 (by decide +kernel) (by decide +kernel), List.forall_mem_cons.mpr ⟨tb_in 644 (by decide +kernel) (by decide +kernel), List.forall_mem_cons.mpr ⟨tb_in 57 (by decide +kernel) (by decide +kernel), List.forall_mem_cons.mpr ⟨tb_in 645 (by decide +kernel) (by decide +kernel), fun _ h => absurd h List.not_mem_nil⟩⟩⟩⟩⟩) ⟨rfl, rfl⟩ ⟨Nat.le_of_ble_eq_true rfl, Nat.le_of_ble_eq_true rfl⟩ (by decide +kernel) rfl rfl rfl hl.1 (Nat.le_of_ble_eq_true rfl) ⟨Nat.le_of_ble_eq_true rfl, Nat.le_of_ble_eq_true rfl⟩ dL_law_525 hP hPM hS rfl (fun H locs hP hPM hS => ?_)
  refine lv_aload_n C.1 C.2.1 dL_law_528 rfl (lv_at hl 1 rfl) ?_
  refine lv_aload_n C.1 C.2.1 dL_law_529 rfl (lv_at hl 3 rfl) ?_
  refine lv_iload_n C.1 C.2.1 dL_law_530 rfl (lv_at hl 0 rfl) ?_
  refine lv_iconst (v := 1) C.1 C.2.1 dL_law_531 (by decide) ?_
  refine lv_iadd C.1 C.2.1 dL_law_532 ?_
  refine va_sld C.1 C.2.1 hX hbl (Nat.not_le.mpr hbl) hS v1 dL_law_533 ?_
  refine lv_aload_n C.1 C.2.1 dL_law_534 rfl (lv_at hl 3 rfl) ?_
  refine lv_iload_n C.1 C.2.1 dL_law_535 rfl (lv_at hl 0 rfl) ?_
  refine lv_iconst (v := 2) C.1 C.2.1 dL_law_536 (by decide) ?_
  refine lv_iadd C.1 C.2.1 dL_law_537 ?_
  refine va_sld C.1 C.2.1 hX hbl (Nat.not_le.mpr hbl) hS v2 dL_law_538 ?_
  refine lkVi_M (n := 2) (As := [.int (xs (nI i + 1).toNatClampNeg), .int (xs (nI i + 2).toNatClampNeg)]) (rest := [.int r]) (ci := 12) (q0 := 0) C2 (c_X12_swap l g H.size μ _ _ e2) (List.forall_mem_cons.mpr ⟨tb_in 1033 (by decide +kernel) (by decide +kernel), List.forall_mem_cons.mpr ⟨tb_in 1034 (by decide +kernel) (by decide +kernel), List.forall_mem_cons.mpr ⟨tb_in 1035 (by decide +kernel) (by decide +kernel), List.forall_mem_cons.mpr ⟨tb_in 69 (by decide +kernel) (by decide +kernel), List.forall_mem_cons.mpr ⟨tb_in 1036 (by decide +kernel) (by decide +kernel), fun _ h => absurd h List.not_mem_nil⟩⟩⟩⟩⟩) ⟨rfl, rfl⟩ ⟨Nat.le_of_ble_eq_true rfl, Nat.le_of_ble_eq_true rfl⟩ (by decide +kernel) rfl rfl rfl hl.1 (Nat.le_of_ble_eq_true rfl) ⟨Nat.le_of_ble_eq_true rfl, Nat.le_of_ble_eq_true rfl⟩ dL_law_539 hPM hP hS rfl (fun H locs hPM hP hS => ?_)
  refine lv_icmp_eq (tgt := 841) C.1 C.2.1 dL_law_542 (by decide) (fun c1 => ?_) (fun c1 => absurd rfl c1)
  exact kk _ _ _ _ _ hR2 hP hPM hS
theorem lk_left (C : CX g (fun q : Nat => s.heap.size ≤ q) p s m #[Value.ref b] meth c cL_law 4 RL) (C2 : CM g (fun q : Nat => s.heap.size ≤ q) p s m #[Value.ref b] meth c cL_law 4 RL) (hX : va_X b L xs s s.heap) (hbl : b < s.heap.size) (hi : i + 5 ≤ L) (hL : L ≤ 2560) (hN : 5000 ≤ N) (hn : n < 1000000) (hR : RelE n σ μ) (hl : lv_has ls 4 [(3, .int (nI i)), (2, .ref (g.2.2 31)), (1, .ref (g.2.2 0)), (0, .ref b)]) (hP : va_P g.1 vwCl (wX g σ) H) (hPM : va_P g.1 vwCl (wM g h μ) H) (hS : va_S (fun q : Nat => s.heap.size ≤ q) s.heap H locs) (kk : ∀ (σ2 μ2 : St) (h2 : Int64) (H1 : Heap) (locs1 : List Loc), RelE (n + 1) σ2 μ2 → va_P g.1 vwCl (wX g σ2) H1 → va_P g.1 vwCl (wM g h2 μ2) H1 → va_S (fun q : Nat => s.heap.size ≤ q) s.heap H1 locs1 → W p l e room_1 s m #[Value.ref b] below meth c H1 locs1 41 10789 Q (F0 m 841 ls [])) : W p l e room_1 s m #[Value.ref b] below meth c H locs 41 10789 Q (F0 m 547 ls []) := by
  obtain ⟨r, τ, ν, e1, e2, hR2⟩ := q_left (N := N) hN hR 
  refine lv_aload_n C.1 C.2.1 dL_law_547 rfl (lv_at hl 2 rfl) ?_
  refine lkVi_X (n := 0) (As := []) (rest := []) (ci := 11) (q0 := 0) C (c_X11_left l g H.size N σ e1) (List.forall_mem_cons.mpr ⟨tb_in 646 (by decide +kernel) (by decide +kernel), List.forall_mem_cons.mpr ⟨tb_in 647 (by decide +kernel) (by decide +kernel), List.forall_mem_cons.mpr ⟨tb_in 648 (by decide +kernel) (by decide +kernel), List.forall_mem_cons.mpr ⟨tb_in 57 (by decide +kernel) (by decide +kernel), List.forall_mem_cons.mpr ⟨tb_in 649 (by decide +kernel) (by decide +kernel), fun _ h => absurd h List.not_mem_nil⟩⟩⟩⟩⟩) ⟨rfl, rfl⟩ ⟨Nat.le_of_ble_eq_true rfl, Nat.le_of_ble_eq_true rfl⟩ (by decide +kernel) rfl rfl rfl hl.1 (Nat.le_of_ble_eq_true rfl) ⟨Nat.le_of_ble_eq_true rfl, Nat.le_of_ble_eq_true rfl⟩ dL_law_548 hP hPM hS rfl (fun H locs hP hPM hS => ?_)
  refine lv_aload_n C.1 C.2.1 dL_law_551 rfl (lv_at hl 1 rfl) ?_
  refine lkVi_M (n := 0) (As := []) (rest := [.int r]) (ci := 12) (q0 := 0) C2 (c_X12_left l g H.size N μ e2) (List.forall_mem_cons.mpr ⟨tb_in 930 (by decide +kernel) (by decide +kernel), List.forall_mem_cons.mpr ⟨tb_in 931 (by decide +kernel) (by decide +kernel), List.forall_mem_cons.mpr ⟨tb_in 932 (by decide +kernel) (by decide +kernel), List.forall_mem_cons.mpr ⟨tb_in 69 (by decide +kernel) (by decide +kernel), List.forall_mem_cons.mpr ⟨tb_in 933 (by decide +kernel) (by decide +kernel), fun _ h => absurd h List.not_mem_nil⟩⟩⟩⟩⟩) ⟨rfl, rfl⟩ ⟨Nat.le_of_ble_eq_true rfl, Nat.le_of_ble_eq_true rfl⟩ (by decide +kernel) rfl rfl rfl hl.1 (Nat.le_of_ble_eq_true rfl) ⟨Nat.le_of_ble_eq_true rfl, Nat.le_of_ble_eq_true rfl⟩ dL_law_552 hPM hP hS rfl (fun H locs hPM hP hS => ?_)
  refine lv_icmp_eq (tgt := 841) C.1 C.2.1 dL_law_555 (by decide) (fun c1 => ?_) (fun c1 => absurd rfl c1)
  exact kk _ _ _ _ _ hR2 hP hPM hS
theorem lk_fits (C : CX g (fun q : Nat => s.heap.size ≤ q) p s m #[Value.ref b] meth c cL_law 4 RL) (C2 : CM g (fun q : Nat => s.heap.size ≤ q) p s m #[Value.ref b] meth c cL_law 4 RL) (hX : va_X b L xs s s.heap) (hbl : b < s.heap.size) (hi : i + 5 ≤ L) (hL : L ≤ 2560) (hN : 5000 ≤ N) (hn : n < 1000000) (hR : RelE n σ μ) (hl : lv_has ls 4 [(3, .int (nI i)), (2, .ref (g.2.2 31)), (1, .ref (g.2.2 0)), (0, .ref b)]) (hP : va_P g.1 vwCl (wX g σ) H) (hPM : va_P g.1 vwCl (wM g h μ) H) (hS : va_S (fun q : Nat => s.heap.size ≤ q) s.heap H locs) (kk : ∀ (σ2 μ2 : St) (h2 : Int64) (H1 : Heap) (locs1 : List Loc), RelE (n + 1) σ2 μ2 → va_P g.1 vwCl (wX g σ2) H1 → va_P g.1 vwCl (wM g h2 μ2) H1 → va_S (fun q : Nat => s.heap.size ≤ q) s.heap H1 locs1 → W p l e room_1 s m #[Value.ref b] below meth c H1 locs1 41 10789 Q (F0 m 841 ls [])) : W p l e room_1 s m #[Value.ref b] below meth c H locs 41 10789 Q (F0 m 560 ls []) := by
  have v1 : vp_in (nI i + 1) L := lw_in (k := 1) (by omega) (nI_1 i) hi hL
  obtain ⟨r, τ, ν, e1, e2, hR2⟩ := q_fits (N := N) hN hR (xs (nI i + 1).toNatClampNeg)
  refine lv_aload_n C.1 C.2.1 dL_law_560 rfl (lv_at hl 2 rfl) ?_
  refine lv_aload_n C.1 C.2.1 dL_law_561 rfl (lv_at hl 3 rfl) ?_
  refine lv_iload_n C.1 C.2.1 dL_law_562 rfl (lv_at hl 0 rfl) ?_
  refine lv_iconst (v := 1) C.1 C.2.1 dL_law_563 (by decide) ?_
  refine lv_iadd C.1 C.2.1 dL_law_564 ?_
  refine va_sld C.1 C.2.1 hX hbl (Nat.not_le.mpr hbl) hS v1 dL_law_565 ?_
  refine lkVi_X (n := 1) (As := [.int (xs (nI i + 1).toNatClampNeg)]) (rest := []) (ci := 11) (q0 := 0) C (c_X11_fits l g H.size N σ _ e1) (List.forall_mem_cons.mpr ⟨tb_in 654 (by decide +kernel) (by decide +kernel), List.forall_mem_cons.mpr ⟨tb_in 655 (by decide +kernel) (by decide +kernel), List.forall_mem_cons.mpr ⟨tb_in 656 (by decide +kernel) (by decide +kernel), List.forall_mem_cons.mpr ⟨tb_in 57 (by decide +kernel) (by decide +kernel), List.forall_mem_cons.mpr ⟨tb_in 657 (by decide +kernel) (by decide +kernel), fun _ h => absurd h List.not_mem_nil⟩⟩⟩⟩⟩) ⟨rfl, rfl⟩ ⟨Nat.le_of_ble_eq_true rfl, Nat.le_of_ble_eq_true rfl⟩ (by decide +kernel) rfl rfl rfl hl.1 (Nat.le_of_ble_eq_true rfl) ⟨Nat.le_of_ble_eq_true rfl, Nat.le_of_ble_eq_true rfl⟩ dL_law_566 hP hPM hS rfl (fun H locs hP hPM hS => ?_)
  refine lv_aload_n C.1 C.2.1 dL_law_569 rfl (lv_at hl 1 rfl) ?_
  refine lv_aload_n C.1 C.2.1 dL_law_570 rfl (lv_at hl 3 rfl) ?_
  refine lv_iload_n C.1 C.2.1 dL_law_571 rfl (lv_at hl 0 rfl) ?_
  refine lv_iconst (v := 1) C.1 C.2.1 dL_law_572 (by decide) ?_
  refine lv_iadd C.1 C.2.1 dL_law_573 ?_
  refine va_sld C.1 C.2.1 hX hbl (Nat.not_le.mpr hbl) hS v1 dL_law_574 ?_
  refine lkVi_M (n := 1) (As := [.int (xs (nI i + 1).toNatClampNeg)]) (rest := [.int r]) (ci := 12) (q0 := 0) C2 (c_X12_fits l g H.size N μ _ e2) (List.forall_mem_cons.mpr ⟨tb_in 954 (by decide +kernel) (by decide +kernel), List.forall_mem_cons.mpr ⟨tb_in 955 (by decide +kernel) (by decide +kernel), List.forall_mem_cons.mpr ⟨tb_in 956 (by decide +kernel) (by decide +kernel), List.forall_mem_cons.mpr ⟨tb_in 69 (by decide +kernel) (by decide +kernel), List.forall_mem_cons.mpr ⟨tb_in 957 (by decide +kernel) (by decide +kernel), fun _ h => absurd h List.not_mem_nil⟩⟩⟩⟩⟩) ⟨rfl, rfl⟩ ⟨Nat.le_of_ble_eq_true rfl, Nat.le_of_ble_eq_true rfl⟩ (by decide +kernel) rfl rfl rfl hl.1 (Nat.le_of_ble_eq_true rfl) ⟨Nat.le_of_ble_eq_true rfl, Nat.le_of_ble_eq_true rfl⟩ dL_law_575 hPM hP hS rfl (fun H locs hPM hP hS => ?_)
  refine lv_icmp_eq (tgt := 841) C.1 C.2.1 dL_law_578 (by decide) (fun c1 => ?_) (fun c1 => absurd rfl c1)
  exact kk _ _ _ _ _ hR2 hP hPM hS
theorem lk_best (C : CX g (fun q : Nat => s.heap.size ≤ q) p s m #[Value.ref b] meth c cL_law 4 RL) (C2 : CM g (fun q : Nat => s.heap.size ≤ q) p s m #[Value.ref b] meth c cL_law 4 RL) (hX : va_X b L xs s s.heap) (hbl : b < s.heap.size) (hi : i + 5 ≤ L) (hL : L ≤ 2560) (hN : 5000 ≤ N) (hn : n < 1000000) (hR : RelE n σ μ) (hl : lv_has ls 4 [(3, .int (nI i)), (2, .ref (g.2.2 31)), (1, .ref (g.2.2 0)), (0, .ref b)]) (hP : va_P g.1 vwCl (wX g σ) H) (hPM : va_P g.1 vwCl (wM g h μ) H) (hS : va_S (fun q : Nat => s.heap.size ≤ q) s.heap H locs) (kk : ∀ (σ2 μ2 : St) (h2 : Int64) (H1 : Heap) (locs1 : List Loc), RelE (n + 1) σ2 μ2 → va_P g.1 vwCl (wX g σ2) H1 → va_P g.1 vwCl (wM g h2 μ2) H1 → va_S (fun q : Nat => s.heap.size ≤ q) s.heap H1 locs1 → W p l e room_1 s m #[Value.ref b] below meth c H1 locs1 41 10789 Q (F0 m 841 ls [])) : W p l e room_1 s m #[Value.ref b] below meth c H locs 41 10789 Q (F0 m 583 ls []) := by
  have v1 : vp_in (nI i + 1) L := lw_in (k := 1) (by omega) (nI_1 i) hi hL
  have v2 : vp_in (nI i + 2) L := lw_in (k := 2) (by omega) (nI_p2 i) hi hL
  obtain ⟨r, τ, ν, e1, e2, hR2⟩ := q_best (N := N) hN hR (xs (nI i + 1).toNatClampNeg) (xs (nI i + 2).toNatClampNeg)
  refine lv_aload_n C.1 C.2.1 dL_law_583 rfl (lv_at hl 2 rfl) ?_
  refine lv_aload_n C.1 C.2.1 dL_law_584 rfl (lv_at hl 3 rfl) ?_
  refine lv_iload_n C.1 C.2.1 dL_law_585 rfl (lv_at hl 0 rfl) ?_
  refine lv_iconst (v := 1) C.1 C.2.1 dL_law_586 (by decide) ?_
  refine lv_iadd C.1 C.2.1 dL_law_587 ?_
  refine va_sld C.1 C.2.1 hX hbl (Nat.not_le.mpr hbl) hS v1 dL_law_588 ?_
  refine lv_aload_n C.1 C.2.1 dL_law_589 rfl (lv_at hl 3 rfl) ?_
  refine lv_iload_n C.1 C.2.1 dL_law_590 rfl (lv_at hl 0 rfl) ?_
  refine lv_iconst (v := 2) C.1 C.2.1 dL_law_591 (by decide) ?_
  refine lv_iadd C.1 C.2.1 dL_law_592 ?_
  refine va_sld C.1 C.2.1 hX hbl (Nat.not_le.mpr hbl) hS v2 dL_law_593 ?_
  refine lkVi_X (n := 2) (As := [.int (xs (nI i + 1).toNatClampNeg), .int (xs (nI i + 2).toNatClampNeg)]) (rest := []) (ci := 11) (q0 := 0) C (c_X11_best l g H.size N σ _ _ e1) (List.forall_mem_cons.mpr ⟨tb_in 658 (by decide +kernel) (by decide +kernel), List.forall_mem_cons.mpr ⟨tb_in 659 (by decide +kernel) (by decide +kernel), List.forall_mem_cons.mpr ⟨tb_in 660 (by decide +kernel) (by decide +kernel), List.forall_mem_cons.mpr ⟨tb_in 57 (by decide +kernel) (by decide +kernel), List.forall_mem_cons.mpr ⟨tb_in 661 (by decide +kernel) (by decide +kernel), fun _ h => absurd h List.not_mem_nil⟩⟩⟩⟩⟩) ⟨rfl, rfl⟩ ⟨Nat.le_of_ble_eq_true rfl, Nat.le_of_ble_eq_true rfl⟩ (by decide +kernel) rfl rfl rfl hl.1 (Nat.le_of_ble_eq_true rfl) ⟨Nat.le_of_ble_eq_true rfl, Nat.le_of_ble_eq_true rfl⟩ dL_law_594 hP hPM hS rfl (fun H locs hP hPM hS => ?_)
  refine lv_aload_n C.1 C.2.1 dL_law_597 rfl (lv_at hl 1 rfl) ?_
  refine lv_aload_n C.1 C.2.1 dL_law_598 rfl (lv_at hl 3 rfl) ?_
  refine lv_iload_n C.1 C.2.1 dL_law_599 rfl (lv_at hl 0 rfl) ?_
  refine lv_iconst (v := 1) C.1 C.2.1 dL_law_600 (by decide) ?_
  refine lv_iadd C.1 C.2.1 dL_law_601 ?_
  refine va_sld C.1 C.2.1 hX hbl (Nat.not_le.mpr hbl) hS v1 dL_law_602 ?_
  refine lv_aload_n C.1 C.2.1 dL_law_603 rfl (lv_at hl 3 rfl) ?_
  refine lv_iload_n C.1 C.2.1 dL_law_604 rfl (lv_at hl 0 rfl) ?_
  refine lv_iconst (v := 2) C.1 C.2.1 dL_law_605 (by decide) ?_
  refine lv_iadd C.1 C.2.1 dL_law_606 ?_
  refine va_sld C.1 C.2.1 hX hbl (Nat.not_le.mpr hbl) hS v2 dL_law_607 ?_
  refine lkVi_M (n := 2) (As := [.int (xs (nI i + 1).toNatClampNeg), .int (xs (nI i + 2).toNatClampNeg)]) (rest := [.int r]) (ci := 12) (q0 := 0) C2 (c_X12_best l g H.size N μ _ _ e2) (List.forall_mem_cons.mpr ⟨tb_in 1037 (by decide +kernel) (by decide +kernel), List.forall_mem_cons.mpr ⟨tb_in 1038 (by decide +kernel) (by decide +kernel), List.forall_mem_cons.mpr ⟨tb_in 1039 (by decide +kernel) (by decide +kernel), List.forall_mem_cons.mpr ⟨tb_in 69 (by decide +kernel) (by decide +kernel), List.forall_mem_cons.mpr ⟨tb_in 1040 (by decide +kernel) (by decide +kernel), fun _ h => absurd h List.not_mem_nil⟩⟩⟩⟩⟩) ⟨rfl, rfl⟩ ⟨Nat.le_of_ble_eq_true rfl, Nat.le_of_ble_eq_true rfl⟩ (by decide +kernel) rfl rfl rfl hl.1 (Nat.le_of_ble_eq_true rfl) ⟨Nat.le_of_ble_eq_true rfl, Nat.le_of_ble_eq_true rfl⟩ dL_law_608 hPM hP hS rfl (fun H locs hPM hP hS => ?_)
  refine lv_icmp_eq (tgt := 841) C.1 C.2.1 dL_law_611 (by decide) (fun c1 => ?_) (fun c1 => absurd rfl c1)
  exact kk _ _ _ _ _ hR2 hP hPM hS
theorem lk_rest (C : CX g (fun q : Nat => s.heap.size ≤ q) p s m #[Value.ref b] meth c cL_law 4 RL) (C2 : CM g (fun q : Nat => s.heap.size ≤ q) p s m #[Value.ref b] meth c cL_law 4 RL) (hX : va_X b L xs s s.heap) (hbl : b < s.heap.size) (hi : i + 5 ≤ L) (hL : L ≤ 2560) (hN : 5000 ≤ N) (hn : n < 1000000) (hR : RelE n σ μ) (hl : lv_has ls 4 [(3, .int (nI i)), (2, .ref (g.2.2 31)), (1, .ref (g.2.2 0)), (0, .ref b)]) (hP : va_P g.1 vwCl (wX g σ) H) (hPM : va_P g.1 vwCl (wM g h μ) H) (hS : va_S (fun q : Nat => s.heap.size ≤ q) s.heap H locs) (kk : ∀ (σ2 μ2 : St) (h2 : Int64) (H1 : Heap) (locs1 : List Loc), RelE (n + 1) σ2 μ2 → va_P g.1 vwCl (wX g σ2) H1 → va_P g.1 vwCl (wM g h2 μ2) H1 → va_S (fun q : Nat => s.heap.size ≤ q) s.heap H1 locs1 → W p l e room_1 s m #[Value.ref b] below meth c H1 locs1 41 10789 Q (F0 m 841 ls [])) : W p l e room_1 s m #[Value.ref b] below meth c H locs 41 10789 Q (F0 m 616 ls []) := by
  have v1 : vp_in (nI i + 1) L := lw_in (k := 1) (by omega) (nI_1 i) hi hL
  have v2 : vp_in (nI i + 2) L := lw_in (k := 2) (by omega) (nI_p2 i) hi hL
  have v3 : vp_in (nI i + 3) L := lw_in (k := 3) (by omega) (nI_p3 i) hi hL
  obtain ⟨r, τ, ν, e1, e2, hR2⟩ := q_rest (N := N) hN hR (xs (nI i + 1).toNatClampNeg) (xs (nI i + 2).toNatClampNeg) (xs (nI i + 3).toNatClampNeg)
  refine lv_aload_n C.1 C.2.1 dL_law_616 rfl (lv_at hl 2 rfl) ?_
  refine lv_aload_n C.1 C.2.1 dL_law_617 rfl (lv_at hl 3 rfl) ?_
  refine lv_iload_n C.1 C.2.1 dL_law_618 rfl (lv_at hl 0 rfl) ?_
  refine lv_iconst (v := 1) C.1 C.2.1 dL_law_619 (by decide) ?_
  refine lv_iadd C.1 C.2.1 dL_law_620 ?_
  refine va_sld C.1 C.2.1 hX hbl (Nat.not_le.mpr hbl) hS v1 dL_law_621 ?_
  refine lv_aload_n C.1 C.2.1 dL_law_622 rfl (lv_at hl 3 rfl) ?_
  refine lv_iload_n C.1 C.2.1 dL_law_623 rfl (lv_at hl 0 rfl) ?_
  refine lv_iconst (v := 2) C.1 C.2.1 dL_law_624 (by decide) ?_
  refine lv_iadd C.1 C.2.1 dL_law_625 ?_
  refine va_sld C.1 C.2.1 hX hbl (Nat.not_le.mpr hbl) hS v2 dL_law_626 ?_
  refine lv_aload_n C.1 C.2.1 dL_law_627 rfl (lv_at hl 3 rfl) ?_
  refine lv_iload_n C.1 C.2.1 dL_law_628 rfl (lv_at hl 0 rfl) ?_
  refine lv_iconst (v := 3) C.1 C.2.1 dL_law_629 (by decide) ?_
  refine lv_iadd C.1 C.2.1 dL_law_630 ?_
  refine va_sld C.1 C.2.1 hX hbl (Nat.not_le.mpr hbl) hS v3 dL_law_631 ?_
  refine lkVi_X (n := 3) (As := [.int (xs (nI i + 1).toNatClampNeg), .int (xs (nI i + 2).toNatClampNeg), .int (xs (nI i + 3).toNatClampNeg)]) (rest := []) (ci := 11) (q0 := 0) C (c_X11_rest l g H.size N σ _ _ _ e1) (List.forall_mem_cons.mpr ⟨tb_in 676 (by decide +kernel) (by decide +kernel), List.forall_mem_cons.mpr ⟨tb_in 677 (by decide +kernel) (by decide +kernel), List.forall_mem_cons.mpr ⟨tb_in 678 (by decide +kernel) (by decide +kernel), List.forall_mem_cons.mpr ⟨tb_in 57 (by decide +kernel) (by decide +kernel), List.forall_mem_cons.mpr ⟨tb_in 679 (by decide +kernel) (by decide +kernel), fun _ h => absurd h List.not_mem_nil⟩⟩⟩⟩⟩) ⟨rfl, rfl⟩ ⟨Nat.le_of_ble_eq_true rfl, Nat.le_of_ble_eq_true rfl⟩ (by decide +kernel) rfl rfl rfl hl.1 (Nat.le_of_ble_eq_true rfl) ⟨Nat.le_of_ble_eq_true rfl, Nat.le_of_ble_eq_true rfl⟩ dL_law_632 hP hPM hS rfl (fun H locs hP hPM hS => ?_)
  refine lv_aload_n C.1 C.2.1 dL_law_635 rfl (lv_at hl 1 rfl) ?_
  refine lv_aload_n C.1 C.2.1 dL_law_636 rfl (lv_at hl 3 rfl) ?_
  refine lv_iload_n C.1 C.2.1 dL_law_637 rfl (lv_at hl 0 rfl) ?_
  refine lv_iconst (v := 1) C.1 C.2.1 dL_law_638 (by decide) ?_
  refine lv_iadd C.1 C.2.1 dL_law_639 ?_
  refine va_sld C.1 C.2.1 hX hbl (Nat.not_le.mpr hbl) hS v1 dL_law_640 ?_
  refine lv_aload_n C.1 C.2.1 dL_law_641 rfl (lv_at hl 3 rfl) ?_
  refine lv_iload_n C.1 C.2.1 dL_law_642 rfl (lv_at hl 0 rfl) ?_
  refine lv_iconst (v := 2) C.1 C.2.1 dL_law_643 (by decide) ?_
  refine lv_iadd C.1 C.2.1 dL_law_644 ?_
  refine va_sld C.1 C.2.1 hX hbl (Nat.not_le.mpr hbl) hS v2 dL_law_645 ?_
  refine lv_aload_n C.1 C.2.1 dL_law_646 rfl (lv_at hl 3 rfl) ?_
  refine lv_iload_n C.1 C.2.1 dL_law_647 rfl (lv_at hl 0 rfl) ?_
  refine lv_iconst (v := 3) C.1 C.2.1 dL_law_648 (by decide) ?_
  refine lv_iadd C.1 C.2.1 dL_law_649 ?_
  refine va_sld C.1 C.2.1 hX hbl (Nat.not_le.mpr hbl) hS v3 dL_law_650 ?_
  refine lkVi_M (n := 3) (As := [.int (xs (nI i + 1).toNatClampNeg), .int (xs (nI i + 2).toNatClampNeg), .int (xs (nI i + 3).toNatClampNeg)]) (rest := [.int r]) (ci := 12) (q0 := 0) C2 (c_X12_rest l g H.size N μ _ _ _ e2) (List.forall_mem_cons.mpr ⟨tb_in 1053 (by decide +kernel) (by decide +kernel), List.forall_mem_cons.mpr ⟨tb_in 1054 (by decide +kernel) (by decide +kernel), List.forall_mem_cons.mpr ⟨tb_in 1055 (by decide +kernel) (by decide +kernel), List.forall_mem_cons.mpr ⟨tb_in 69 (by decide +kernel) (by decide +kernel), List.forall_mem_cons.mpr ⟨tb_in 1056 (by decide +kernel) (by decide +kernel), fun _ h => absurd h List.not_mem_nil⟩⟩⟩⟩⟩) ⟨rfl, rfl⟩ ⟨Nat.le_of_ble_eq_true rfl, Nat.le_of_ble_eq_true rfl⟩ (by decide +kernel) rfl rfl rfl hl.1 (Nat.le_of_ble_eq_true rfl) ⟨Nat.le_of_ble_eq_true rfl, Nat.le_of_ble_eq_true rfl⟩ dL_law_651 hPM hP hS rfl (fun H locs hPM hP hS => ?_)
  refine lv_icmp_eq (tgt := 841) C.1 C.2.1 dL_law_654 (by decide) (fun c1 => ?_) (fun c1 => absurd rfl c1)
  exact kk _ _ _ _ _ hR2 hP hPM hS
theorem lk_howLong (C : CX g (fun q : Nat => s.heap.size ≤ q) p s m #[Value.ref b] meth c cL_law 4 RL) (C2 : CM g (fun q : Nat => s.heap.size ≤ q) p s m #[Value.ref b] meth c cL_law 4 RL) (hX : va_X b L xs s s.heap) (hbl : b < s.heap.size) (hi : i + 5 ≤ L) (hL : L ≤ 2560) (hN : 5000 ≤ N) (hn : n < 1000000) (hR : RelE n σ μ) (hl : lv_has ls 4 [(3, .int (nI i)), (2, .ref (g.2.2 31)), (1, .ref (g.2.2 0)), (0, .ref b)]) (hP : va_P g.1 vwCl (wX g σ) H) (hPM : va_P g.1 vwCl (wM g h μ) H) (hS : va_S (fun q : Nat => s.heap.size ≤ q) s.heap H locs) (kk : ∀ (σ2 μ2 : St) (h2 : Int64) (H1 : Heap) (locs1 : List Loc), RelE (n + 1) σ2 μ2 → va_P g.1 vwCl (wX g σ2) H1 → va_P g.1 vwCl (wM g h2 μ2) H1 → va_S (fun q : Nat => s.heap.size ≤ q) s.heap H1 locs1 → W p l e room_1 s m #[Value.ref b] below meth c H1 locs1 41 10789 Q (F0 m 841 ls [])) : W p l e room_1 s m #[Value.ref b] below meth c H locs 41 10789 Q (F0 m 659 ls []) := by
  have v1 : vp_in (nI i + 1) L := lw_in (k := 1) (by omega) (nI_1 i) hi hL
  have v2 : vp_in (nI i + 2) L := lw_in (k := 2) (by omega) (nI_p2 i) hi hL
  obtain ⟨r, τ, ν, e1, e2, hR2⟩ := q_howLong (N := N) hN hR (xs (nI i + 1).toNatClampNeg) (xs (nI i + 2).toNatClampNeg)
  refine lv_aload_n C.1 C.2.1 dL_law_659 rfl (lv_at hl 2 rfl) ?_
  refine lv_aload_n C.1 C.2.1 dL_law_660 rfl (lv_at hl 3 rfl) ?_
  refine lv_iload_n C.1 C.2.1 dL_law_661 rfl (lv_at hl 0 rfl) ?_
  refine lv_iconst (v := 1) C.1 C.2.1 dL_law_662 (by decide) ?_
  refine lv_iadd C.1 C.2.1 dL_law_663 ?_
  refine va_sld C.1 C.2.1 hX hbl (Nat.not_le.mpr hbl) hS v1 dL_law_664 ?_
  refine lv_aload_n C.1 C.2.1 dL_law_665 rfl (lv_at hl 3 rfl) ?_
  refine lv_iload_n C.1 C.2.1 dL_law_666 rfl (lv_at hl 0 rfl) ?_
  refine lv_iconst (v := 2) C.1 C.2.1 dL_law_667 (by decide) ?_
  refine lv_iadd C.1 C.2.1 dL_law_668 ?_
  refine va_sld C.1 C.2.1 hX hbl (Nat.not_le.mpr hbl) hS v2 dL_law_669 ?_
  refine lkVi_X (n := 2) (As := [.int (xs (nI i + 1).toNatClampNeg), .int (xs (nI i + 2).toNatClampNeg)]) (rest := []) (ci := 11) (q0 := 0) C (c_X11_howLong l g H.size N σ _ _ e1) (List.forall_mem_cons.mpr ⟨tb_in 687 (by decide +kernel) (by decide +kernel), List.forall_mem_cons.mpr ⟨tb_in 688 (by decide +kernel) (by decide +kernel), List.forall_mem_cons.mpr ⟨tb_in 689 (by decide +kernel) (by decide +kernel), List.forall_mem_cons.mpr ⟨tb_in 57 (by decide +kernel) (by decide +kernel), List.forall_mem_cons.mpr ⟨tb_in 690 (by decide +kernel) (by decide +kernel), fun _ h => absurd h List.not_mem_nil⟩⟩⟩⟩⟩) ⟨rfl, rfl⟩ ⟨Nat.le_of_ble_eq_true rfl, Nat.le_of_ble_eq_true rfl⟩ (by decide +kernel) rfl rfl rfl hl.1 (Nat.le_of_ble_eq_true rfl) ⟨Nat.le_of_ble_eq_true rfl, Nat.le_of_ble_eq_true rfl⟩ dL_law_670 hP hPM hS rfl (fun H locs hP hPM hS => ?_)
  refine lv_aload_n C.1 C.2.1 dL_law_673 rfl (lv_at hl 1 rfl) ?_
  refine lv_aload_n C.1 C.2.1 dL_law_674 rfl (lv_at hl 3 rfl) ?_
  refine lv_iload_n C.1 C.2.1 dL_law_675 rfl (lv_at hl 0 rfl) ?_
  refine lv_iconst (v := 1) C.1 C.2.1 dL_law_676 (by decide) ?_
  refine lv_iadd C.1 C.2.1 dL_law_677 ?_
  refine va_sld C.1 C.2.1 hX hbl (Nat.not_le.mpr hbl) hS v1 dL_law_678 ?_
  refine lv_aload_n C.1 C.2.1 dL_law_679 rfl (lv_at hl 3 rfl) ?_
  refine lv_iload_n C.1 C.2.1 dL_law_680 rfl (lv_at hl 0 rfl) ?_
  refine lv_iconst (v := 2) C.1 C.2.1 dL_law_681 (by decide) ?_
  refine lv_iadd C.1 C.2.1 dL_law_682 ?_
  refine va_sld C.1 C.2.1 hX hbl (Nat.not_le.mpr hbl) hS v2 dL_law_683 ?_
  refine lkVi_M (n := 2) (As := [.int (xs (nI i + 1).toNatClampNeg), .int (xs (nI i + 2).toNatClampNeg)]) (rest := [.int r]) (ci := 12) (q0 := 0) C2 (c_X12_howLong l g H.size N μ _ _ e2) (List.forall_mem_cons.mpr ⟨tb_in 1061 (by decide +kernel) (by decide +kernel), List.forall_mem_cons.mpr ⟨tb_in 1062 (by decide +kernel) (by decide +kernel), List.forall_mem_cons.mpr ⟨tb_in 1063 (by decide +kernel) (by decide +kernel), List.forall_mem_cons.mpr ⟨tb_in 69 (by decide +kernel) (by decide +kernel), List.forall_mem_cons.mpr ⟨tb_in 1064 (by decide +kernel) (by decide +kernel), fun _ h => absurd h List.not_mem_nil⟩⟩⟩⟩⟩) ⟨rfl, rfl⟩ ⟨Nat.le_of_ble_eq_true rfl, Nat.le_of_ble_eq_true rfl⟩ (by decide +kernel) rfl rfl rfl hl.1 (Nat.le_of_ble_eq_true rfl) ⟨Nat.le_of_ble_eq_true rfl, Nat.le_of_ble_eq_true rfl⟩ dL_law_684 hPM hP hS rfl (fun H locs hPM hP hS => ?_)
  refine lv_icmp_eq (tgt := 841) C.1 C.2.1 dL_law_687 (by decide) (fun c1 => ?_) (fun c1 => absurd rfl c1)
  exact kk _ _ _ _ _ hR2 hP hPM hS
theorem lk_parts (C : CX g (fun q : Nat => s.heap.size ≤ q) p s m #[Value.ref b] meth c cL_law 4 RL) (C2 : CM g (fun q : Nat => s.heap.size ≤ q) p s m #[Value.ref b] meth c cL_law 4 RL) (hX : va_X b L xs s s.heap) (hbl : b < s.heap.size) (hi : i + 5 ≤ L) (hL : L ≤ 2560) (hN : 5000 ≤ N) (hn : n < 1000000) (hR : RelE n σ μ) (hl : lv_has ls 4 [(3, .int (nI i)), (2, .ref (g.2.2 31)), (1, .ref (g.2.2 0)), (0, .ref b)]) (hP : va_P g.1 vwCl (wX g σ) H) (hPM : va_P g.1 vwCl (wM g h μ) H) (hS : va_S (fun q : Nat => s.heap.size ≤ q) s.heap H locs) (kk : ∀ (σ2 μ2 : St) (h2 : Int64) (H1 : Heap) (locs1 : List Loc), RelE (n + 1) σ2 μ2 → va_P g.1 vwCl (wX g σ2) H1 → va_P g.1 vwCl (wM g h2 μ2) H1 → va_S (fun q : Nat => s.heap.size ≤ q) s.heap H1 locs1 → W p l e room_1 s m #[Value.ref b] below meth c H1 locs1 41 10789 Q (F0 m 841 ls [])) : W p l e room_1 s m #[Value.ref b] below meth c H locs 41 10789 Q (F0 m 692 ls []) := by
  have v1 : vp_in (nI i + 1) L := lw_in (k := 1) (by omega) (nI_1 i) hi hL
  have v2 : vp_in (nI i + 2) L := lw_in (k := 2) (by omega) (nI_p2 i) hi hL
  obtain ⟨r, τ, ν, e1, e2, hR2⟩ := q_parts (N := N) hN hR (xs (nI i + 1).toNatClampNeg) (xs (nI i + 2).toNatClampNeg)
  refine lv_aload_n C.1 C.2.1 dL_law_692 rfl (lv_at hl 2 rfl) ?_
  refine lv_aload_n C.1 C.2.1 dL_law_693 rfl (lv_at hl 3 rfl) ?_
  refine lv_iload_n C.1 C.2.1 dL_law_694 rfl (lv_at hl 0 rfl) ?_
  refine lv_iconst (v := 1) C.1 C.2.1 dL_law_695 (by decide) ?_
  refine lv_iadd C.1 C.2.1 dL_law_696 ?_
  refine va_sld C.1 C.2.1 hX hbl (Nat.not_le.mpr hbl) hS v1 dL_law_697 ?_
  refine lv_aload_n C.1 C.2.1 dL_law_698 rfl (lv_at hl 3 rfl) ?_
  refine lv_iload_n C.1 C.2.1 dL_law_699 rfl (lv_at hl 0 rfl) ?_
  refine lv_iconst (v := 2) C.1 C.2.1 dL_law_700 (by decide) ?_
  refine lv_iadd C.1 C.2.1 dL_law_701 ?_
  refine va_sld C.1 C.2.1 hX hbl (Nat.not_le.mpr hbl) hS v2 dL_law_702 ?_
  refine lkVi_X (n := 2) (As := [.int (xs (nI i + 1).toNatClampNeg), .int (xs (nI i + 2).toNatClampNeg)]) (rest := []) (ci := 11) (q0 := 0) C (c_X11_parts l g H.size N σ _ _ e1) (List.forall_mem_cons.mpr ⟨tb_in 691 (by decide +kernel) (by decide +kernel), List.forall_mem_cons.mpr ⟨tb_in 692 (by decide +kernel) (by decide +kernel), List.forall_mem_cons.mpr ⟨tb_in 693 (by decide +kernel) (by decide +kernel), List.forall_mem_cons.mpr ⟨tb_in 57 (by decide +kernel) (by decide +kernel), List.forall_mem_cons.mpr ⟨tb_in 694 (by decide +kernel) (by decide +kernel), fun _ h => absurd h List.not_mem_nil⟩⟩⟩⟩⟩) ⟨rfl, rfl⟩ ⟨Nat.le_of_ble_eq_true rfl, Nat.le_of_ble_eq_true rfl⟩ (by decide +kernel) rfl rfl rfl hl.1 (Nat.le_of_ble_eq_true rfl) ⟨Nat.le_of_ble_eq_true rfl, Nat.le_of_ble_eq_true rfl⟩ dL_law_703 hP hPM hS rfl (fun H locs hP hPM hS => ?_)
  refine lv_aload_n C.1 C.2.1 dL_law_706 rfl (lv_at hl 1 rfl) ?_
  refine lv_aload_n C.1 C.2.1 dL_law_707 rfl (lv_at hl 3 rfl) ?_
  refine lv_iload_n C.1 C.2.1 dL_law_708 rfl (lv_at hl 0 rfl) ?_
  refine lv_iconst (v := 1) C.1 C.2.1 dL_law_709 (by decide) ?_
  refine lv_iadd C.1 C.2.1 dL_law_710 ?_
  refine va_sld C.1 C.2.1 hX hbl (Nat.not_le.mpr hbl) hS v1 dL_law_711 ?_
  refine lv_aload_n C.1 C.2.1 dL_law_712 rfl (lv_at hl 3 rfl) ?_
  refine lv_iload_n C.1 C.2.1 dL_law_713 rfl (lv_at hl 0 rfl) ?_
  refine lv_iconst (v := 2) C.1 C.2.1 dL_law_714 (by decide) ?_
  refine lv_iadd C.1 C.2.1 dL_law_715 ?_
  refine va_sld C.1 C.2.1 hX hbl (Nat.not_le.mpr hbl) hS v2 dL_law_716 ?_
  refine lkVi_M (n := 2) (As := [.int (xs (nI i + 1).toNatClampNeg), .int (xs (nI i + 2).toNatClampNeg)]) (rest := [.int r]) (ci := 12) (q0 := 0) C2 (c_X12_parts l g H.size N μ _ _ e2) (List.forall_mem_cons.mpr ⟨tb_in 1069 (by decide +kernel) (by decide +kernel), List.forall_mem_cons.mpr ⟨tb_in 1070 (by decide +kernel) (by decide +kernel), List.forall_mem_cons.mpr ⟨tb_in 1071 (by decide +kernel) (by decide +kernel), List.forall_mem_cons.mpr ⟨tb_in 69 (by decide +kernel) (by decide +kernel), List.forall_mem_cons.mpr ⟨tb_in 1072 (by decide +kernel) (by decide +kernel), fun _ h => absurd h List.not_mem_nil⟩⟩⟩⟩⟩) ⟨rfl, rfl⟩ ⟨Nat.le_of_ble_eq_true rfl, Nat.le_of_ble_eq_true rfl⟩ (by decide +kernel) rfl rfl rfl hl.1 (Nat.le_of_ble_eq_true rfl) ⟨Nat.le_of_ble_eq_true rfl, Nat.le_of_ble_eq_true rfl⟩ dL_law_717 hPM hP hS rfl (fun H locs hPM hP hS => ?_)
  refine lv_icmp_eq (tgt := 841) C.1 C.2.1 dL_law_720 (by decide) (fun c1 => ?_) (fun c1 => absurd rfl c1)
  exact kk _ _ _ _ _ hR2 hP hPM hS
theorem lk_tries (C : CX g (fun q : Nat => s.heap.size ≤ q) p s m #[Value.ref b] meth c cL_law 4 RL) (C2 : CM g (fun q : Nat => s.heap.size ≤ q) p s m #[Value.ref b] meth c cL_law 4 RL) (hX : va_X b L xs s s.heap) (hbl : b < s.heap.size) (hi : i + 5 ≤ L) (hL : L ≤ 2560) (hN : 5000 ≤ N) (hn : n < 1000000) (hR : RelE n σ μ) (hl : lv_has ls 4 [(3, .int (nI i)), (2, .ref (g.2.2 31)), (1, .ref (g.2.2 0)), (0, .ref b)]) (hP : va_P g.1 vwCl (wX g σ) H) (hPM : va_P g.1 vwCl (wM g h μ) H) (hS : va_S (fun q : Nat => s.heap.size ≤ q) s.heap H locs) (kk : ∀ (σ2 μ2 : St) (h2 : Int64) (H1 : Heap) (locs1 : List Loc), RelE (n + 1) σ2 μ2 → va_P g.1 vwCl (wX g σ2) H1 → va_P g.1 vwCl (wM g h2 μ2) H1 → va_S (fun q : Nat => s.heap.size ≤ q) s.heap H1 locs1 → W p l e room_1 s m #[Value.ref b] below meth c H1 locs1 41 10789 Q (F0 m 841 ls [])) : W p l e room_1 s m #[Value.ref b] below meth c H locs 41 10789 Q (F0 m 725 ls []) := by
  have v1 : vp_in (nI i + 1) L := lw_in (k := 1) (by omega) (nI_1 i) hi hL
  have v2 : vp_in (nI i + 2) L := lw_in (k := 2) (by omega) (nI_p2 i) hi hL
  have v3 : vp_in (nI i + 3) L := lw_in (k := 3) (by omega) (nI_p3 i) hi hL
  have v4 : vp_in (nI i + 4) L := lw_in (k := 4) (by omega) (by rw [← nI_add]; rfl) hi hL
  obtain ⟨r, τ, ν, e1, e2, hR2⟩ := q_tries (N := N) hN hR (xs (nI i + 1).toNatClampNeg) (xs (nI i + 2).toNatClampNeg) (xs (nI i + 3).toNatClampNeg) (xs (nI i + 4).toNatClampNeg)
  refine lv_aload_n C.1 C.2.1 dL_law_725 rfl (lv_at hl 2 rfl) ?_
  refine lv_aload_n C.1 C.2.1 dL_law_726 rfl (lv_at hl 3 rfl) ?_
  refine lv_iload_n C.1 C.2.1 dL_law_727 rfl (lv_at hl 0 rfl) ?_
  refine lv_iconst (v := 1) C.1 C.2.1 dL_law_728 (by decide) ?_
  refine lv_iadd C.1 C.2.1 dL_law_729 ?_
  refine va_sld C.1 C.2.1 hX hbl (Nat.not_le.mpr hbl) hS v1 dL_law_730 ?_
  refine lv_aload_n C.1 C.2.1 dL_law_731 rfl (lv_at hl 3 rfl) ?_
  refine lv_iload_n C.1 C.2.1 dL_law_732 rfl (lv_at hl 0 rfl) ?_
  refine lv_iconst (v := 2) C.1 C.2.1 dL_law_733 (by decide) ?_
  refine lv_iadd C.1 C.2.1 dL_law_734 ?_
  refine va_sld C.1 C.2.1 hX hbl (Nat.not_le.mpr hbl) hS v2 dL_law_735 ?_
  refine lv_aload_n C.1 C.2.1 dL_law_736 rfl (lv_at hl 3 rfl) ?_
  refine lv_iload_n C.1 C.2.1 dL_law_737 rfl (lv_at hl 0 rfl) ?_
  refine lv_iconst (v := 3) C.1 C.2.1 dL_law_738 (by decide) ?_
  refine lv_iadd C.1 C.2.1 dL_law_739 ?_
  refine va_sld C.1 C.2.1 hX hbl (Nat.not_le.mpr hbl) hS v3 dL_law_740 ?_
  refine lv_aload_n C.1 C.2.1 dL_law_741 rfl (lv_at hl 3 rfl) ?_
  refine lv_iload_n C.1 C.2.1 dL_law_742 rfl (lv_at hl 0 rfl) ?_
  refine lv_iconst (v := 4) C.1 C.2.1 dL_law_743 (by decide) ?_
  refine lv_iadd C.1 C.2.1 dL_law_744 ?_
  refine va_sld C.1 C.2.1 hX hbl (Nat.not_le.mpr hbl) hS v4 dL_law_745 ?_
  refine lkVi_X (n := 4) (As := [.int (xs (nI i + 1).toNatClampNeg), .int (xs (nI i + 2).toNatClampNeg), .int (xs (nI i + 3).toNatClampNeg), .int (xs (nI i + 4).toNatClampNeg)]) (rest := []) (ci := 11) (q0 := 0) C (c_X11_tries l g H.size N σ _ _ _ _ e1) (List.forall_mem_cons.mpr ⟨tb_in 713 (by decide +kernel) (by decide +kernel), List.forall_mem_cons.mpr ⟨tb_in 714 (by decide +kernel) (by decide +kernel), List.forall_mem_cons.mpr ⟨tb_in 715 (by decide +kernel) (by decide +kernel), List.forall_mem_cons.mpr ⟨tb_in 57 (by decide +kernel) (by decide +kernel), List.forall_mem_cons.mpr ⟨tb_in 716 (by decide +kernel) (by decide +kernel), fun _ h => absurd h List.not_mem_nil⟩⟩⟩⟩⟩) ⟨rfl, rfl⟩ ⟨Nat.le_of_ble_eq_true rfl, Nat.le_of_ble_eq_true rfl⟩ (by decide +kernel) rfl rfl rfl hl.1 (Nat.le_of_ble_eq_true rfl) ⟨Nat.le_of_ble_eq_true rfl, Nat.le_of_ble_eq_true rfl⟩ dL_law_746 hP hPM hS rfl (fun H locs hP hPM hS => ?_)
  refine lv_aload_n C.1 C.2.1 dL_law_749 rfl (lv_at hl 1 rfl) ?_
  refine lv_aload_n C.1 C.2.1 dL_law_750 rfl (lv_at hl 3 rfl) ?_
  refine lv_iload_n C.1 C.2.1 dL_law_751 rfl (lv_at hl 0 rfl) ?_
  refine lv_iconst (v := 1) C.1 C.2.1 dL_law_752 (by decide) ?_
  refine lv_iadd C.1 C.2.1 dL_law_753 ?_
  refine va_sld C.1 C.2.1 hX hbl (Nat.not_le.mpr hbl) hS v1 dL_law_754 ?_
  refine lv_aload_n C.1 C.2.1 dL_law_755 rfl (lv_at hl 3 rfl) ?_
  refine lv_iload_n C.1 C.2.1 dL_law_756 rfl (lv_at hl 0 rfl) ?_
  refine lv_iconst (v := 2) C.1 C.2.1 dL_law_757 (by decide) ?_
  refine lv_iadd C.1 C.2.1 dL_law_758 ?_
  refine va_sld C.1 C.2.1 hX hbl (Nat.not_le.mpr hbl) hS v2 dL_law_759 ?_
  refine lv_aload_n C.1 C.2.1 dL_law_760 rfl (lv_at hl 3 rfl) ?_
  refine lv_iload_n C.1 C.2.1 dL_law_761 rfl (lv_at hl 0 rfl) ?_
  refine lv_iconst (v := 3) C.1 C.2.1 dL_law_762 (by decide) ?_
  refine lv_iadd C.1 C.2.1 dL_law_763 ?_
  refine va_sld C.1 C.2.1 hX hbl (Nat.not_le.mpr hbl) hS v3 dL_law_764 ?_
  refine lv_aload_n C.1 C.2.1 dL_law_765 rfl (lv_at hl 3 rfl) ?_
  refine lv_iload_n C.1 C.2.1 dL_law_766 rfl (lv_at hl 0 rfl) ?_
  refine lv_iconst (v := 4) C.1 C.2.1 dL_law_767 (by decide) ?_
  refine lv_iadd C.1 C.2.1 dL_law_768 ?_
  refine va_sld C.1 C.2.1 hX hbl (Nat.not_le.mpr hbl) hS v4 dL_law_769 ?_
  refine lkVi_M (n := 4) (As := [.int (xs (nI i + 1).toNatClampNeg), .int (xs (nI i + 2).toNatClampNeg), .int (xs (nI i + 3).toNatClampNeg), .int (xs (nI i + 4).toNatClampNeg)]) (rest := [.int r]) (ci := 12) (q0 := 0) C2 (c_X12_tries l g H.size N μ _ _ _ _ e2) (List.forall_mem_cons.mpr ⟨tb_in 1089 (by decide +kernel) (by decide +kernel), List.forall_mem_cons.mpr ⟨tb_in 1090 (by decide +kernel) (by decide +kernel), List.forall_mem_cons.mpr ⟨tb_in 1091 (by decide +kernel) (by decide +kernel), List.forall_mem_cons.mpr ⟨tb_in 69 (by decide +kernel) (by decide +kernel), List.forall_mem_cons.mpr ⟨tb_in 1092 (by decide +kernel) (by decide +kernel), fun _ h => absurd h List.not_mem_nil⟩⟩⟩⟩⟩) ⟨rfl, rfl⟩ ⟨Nat.le_of_ble_eq_true rfl, Nat.le_of_ble_eq_true rfl⟩ (by decide +kernel) rfl rfl rfl hl.1 (Nat.le_of_ble_eq_true rfl) ⟨Nat.le_of_ble_eq_true rfl, Nat.le_of_ble_eq_true rfl⟩ dL_law_770 hPM hP hS rfl (fun H locs hPM hP hS => ?_)
  refine lv_icmp_eq (tgt := 841) C.1 C.2.1 dL_law_773 (by decide) (fun c1 => ?_) (fun c1 => absurd rfl c1)
  exact kk _ _ _ _ _ hR2 hP hPM hS
theorem lk_image (C : CX g (fun q : Nat => s.heap.size ≤ q) p s m #[Value.ref b] meth c cL_law 4 RL) (C2 : CM g (fun q : Nat => s.heap.size ≤ q) p s m #[Value.ref b] meth c cL_law 4 RL) (hX : va_X b L xs s s.heap) (hbl : b < s.heap.size) (hi : i + 5 ≤ L) (hL : L ≤ 2560) (hN : 5000 ≤ N) (hn : n < 1000000) (hR : RelE n σ μ) (hl : lv_has ls 4 [(3, .int (nI i)), (2, .ref (g.2.2 31)), (1, .ref (g.2.2 0)), (0, .ref b)]) (hP : va_P g.1 vwCl (wX g σ) H) (hPM : va_P g.1 vwCl (wM g h μ) H) (hS : va_S (fun q : Nat => s.heap.size ≤ q) s.heap H locs) (kk : ∀ (σ2 μ2 : St) (h2 : Int64) (H1 : Heap) (locs1 : List Loc), RelE (n + 1) σ2 μ2 → va_P g.1 vwCl (wX g σ2) H1 → va_P g.1 vwCl (wM g h2 μ2) H1 → va_S (fun q : Nat => s.heap.size ≤ q) s.heap H1 locs1 → W p l e room_1 s m #[Value.ref b] below meth c H1 locs1 41 10789 Q (F0 m 841 ls [])) : W p l e room_1 s m #[Value.ref b] below meth c H locs 41 10789 Q (F0 m 778 ls []) := by
  obtain ⟨r, τ, ν, e1, e2, hR2⟩ := q_image (N := N) hN hR 
  refine lv_aload_n C.1 C.2.1 dL_law_778 rfl (lv_at hl 2 rfl) ?_
  refine lkVi_X (n := 0) (As := []) (rest := []) (ci := 11) (q0 := 0) C (c_X11_image l g H.size σ e1) (List.forall_mem_cons.mpr ⟨tb_in 740 (by decide +kernel) (by decide +kernel), List.forall_mem_cons.mpr ⟨tb_in 741 (by decide +kernel) (by decide +kernel), List.forall_mem_cons.mpr ⟨tb_in 742 (by decide +kernel) (by decide +kernel), List.forall_mem_cons.mpr ⟨tb_in 57 (by decide +kernel) (by decide +kernel), List.forall_mem_cons.mpr ⟨tb_in 743 (by decide +kernel) (by decide +kernel), fun _ h => absurd h List.not_mem_nil⟩⟩⟩⟩⟩) ⟨rfl, rfl⟩ ⟨Nat.le_of_ble_eq_true rfl, Nat.le_of_ble_eq_true rfl⟩ (by decide +kernel) rfl rfl rfl hl.1 (Nat.le_of_ble_eq_true rfl) ⟨Nat.le_of_ble_eq_true rfl, Nat.le_of_ble_eq_true rfl⟩ dL_law_779 hP hPM hS rfl (fun H locs hP hPM hS => ?_)
  refine lv_aload_n C.1 C.2.1 dL_law_782 rfl (lv_at hl 1 rfl) ?_
  refine lkVi_M (n := 0) (As := []) (rest := [.int r]) (ci := 12) (q0 := 0) C2 (c_X12_image l g H.size N μ e2) (List.forall_mem_cons.mpr ⟨tb_in 1110 (by decide +kernel) (by decide +kernel), List.forall_mem_cons.mpr ⟨tb_in 1111 (by decide +kernel) (by decide +kernel), List.forall_mem_cons.mpr ⟨tb_in 1112 (by decide +kernel) (by decide +kernel), List.forall_mem_cons.mpr ⟨tb_in 69 (by decide +kernel) (by decide +kernel), List.forall_mem_cons.mpr ⟨tb_in 1113 (by decide +kernel) (by decide +kernel), fun _ h => absurd h List.not_mem_nil⟩⟩⟩⟩⟩) ⟨rfl, rfl⟩ ⟨Nat.le_of_ble_eq_true rfl, Nat.le_of_ble_eq_true rfl⟩ (by decide +kernel) rfl rfl rfl hl.1 (Nat.le_of_ble_eq_true rfl) ⟨Nat.le_of_ble_eq_true rfl, Nat.le_of_ble_eq_true rfl⟩ dL_law_783 hPM hP hS rfl (fun H locs hPM hP hS => ?_)
  refine lv_icmp_eq (tgt := 841) C.1 C.2.1 dL_law_786 (by decide) (fun c1 => ?_) (fun c1 => absurd rfl c1)
  exact kk _ _ _ _ _ hR2 hP hPM hS
theorem lk_restore (C : CX g (fun q : Nat => s.heap.size ≤ q) p s m #[Value.ref b] meth c cL_law 4 RL) (C2 : CM g (fun q : Nat => s.heap.size ≤ q) p s m #[Value.ref b] meth c cL_law 4 RL) (hX : va_X b L xs s s.heap) (hbl : b < s.heap.size) (hi : i + 5 ≤ L) (hL : L ≤ 2560) (hN : 5000 ≤ N) (hn : n < 1000000) (hR : RelE n σ μ) (hl : lv_has ls 4 [(3, .int (nI i)), (2, .ref (g.2.2 31)), (1, .ref (g.2.2 0)), (0, .ref b)]) (hP : va_P g.1 vwCl (wX g σ) H) (hPM : va_P g.1 vwCl (wM g h μ) H) (hS : va_S (fun q : Nat => s.heap.size ≤ q) s.heap H locs) (kk : ∀ (σ2 μ2 : St) (h2 : Int64) (H1 : Heap) (locs1 : List Loc), RelE (n + 1) σ2 μ2 → va_P g.1 vwCl (wX g σ2) H1 → va_P g.1 vwCl (wM g h2 μ2) H1 → va_S (fun q : Nat => s.heap.size ≤ q) s.heap H1 locs1 → W p l e room_1 s m #[Value.ref b] below meth c H1 locs1 41 10789 Q (F0 m 841 ls [])) : W p l e room_1 s m #[Value.ref b] below meth c H locs 41 10789 Q (F0 m 791 ls []) := by
  obtain ⟨r, τ, ν, e1, e2, hR2⟩ := q_restore (N := N) hN hn hR 
  refine lv_aload_n C.1 C.2.1 dL_law_791 rfl (lv_at hl 2 rfl) ?_
  refine lkVi_X (n := 0) (As := []) (rest := []) (ci := 11) (q0 := 0) C (c_X11_restore l g H.size σ e1) (List.forall_mem_cons.mpr ⟨tb_in 751 (by decide +kernel) (by decide +kernel), List.forall_mem_cons.mpr ⟨tb_in 752 (by decide +kernel) (by decide +kernel), List.forall_mem_cons.mpr ⟨tb_in 753 (by decide +kernel) (by decide +kernel), List.forall_mem_cons.mpr ⟨tb_in 57 (by decide +kernel) (by decide +kernel), List.forall_mem_cons.mpr ⟨tb_in 754 (by decide +kernel) (by decide +kernel), fun _ h => absurd h List.not_mem_nil⟩⟩⟩⟩⟩) ⟨rfl, rfl⟩ ⟨Nat.le_of_ble_eq_true rfl, Nat.le_of_ble_eq_true rfl⟩ (by decide +kernel) rfl rfl rfl hl.1 (Nat.le_of_ble_eq_true rfl) ⟨Nat.le_of_ble_eq_true rfl, Nat.le_of_ble_eq_true rfl⟩ dL_law_792 hP hPM hS rfl (fun H locs hP hPM hS => ?_)
  refine lv_aload_n C.1 C.2.1 dL_law_795 rfl (lv_at hl 1 rfl) ?_
  refine lkVi_M (n := 0) (As := []) (rest := [.int r]) (ci := 12) (q0 := 0) C2 (c_X12_restore l g H.size N μ e2) (List.forall_mem_cons.mpr ⟨tb_in 1117 (by decide +kernel) (by decide +kernel), List.forall_mem_cons.mpr ⟨tb_in 1118 (by decide +kernel) (by decide +kernel), List.forall_mem_cons.mpr ⟨tb_in 1119 (by decide +kernel) (by decide +kernel), List.forall_mem_cons.mpr ⟨tb_in 69 (by decide +kernel) (by decide +kernel), List.forall_mem_cons.mpr ⟨tb_in 1120 (by decide +kernel) (by decide +kernel), fun _ h => absurd h List.not_mem_nil⟩⟩⟩⟩⟩) ⟨rfl, rfl⟩ ⟨Nat.le_of_ble_eq_true rfl, Nat.le_of_ble_eq_true rfl⟩ (by decide +kernel) rfl rfl rfl hl.1 (Nat.le_of_ble_eq_true rfl) ⟨Nat.le_of_ble_eq_true rfl, Nat.le_of_ble_eq_true rfl⟩ dL_law_796 hPM hP hS rfl (fun H locs hPM hP hS => ?_)
  refine lv_icmp_eq (tgt := 841) C.1 C.2.1 dL_law_799 (by decide) (fun c1 => ?_) (fun c1 => absurd rfl c1)
  exact kk _ _ _ _ _ hR2 hP hPM hS
theorem lk_count (C : CX g (fun q : Nat => s.heap.size ≤ q) p s m #[Value.ref b] meth c cL_law 4 RL) (C2 : CM g (fun q : Nat => s.heap.size ≤ q) p s m #[Value.ref b] meth c cL_law 4 RL) (hX : va_X b L xs s s.heap) (hbl : b < s.heap.size) (hi : i + 5 ≤ L) (hL : L ≤ 2560) (hN : 5000 ≤ N) (hn : n < 1000000) (hR : RelE n σ μ) (hl : lv_has ls 4 [(3, .int (nI i)), (2, .ref (g.2.2 31)), (1, .ref (g.2.2 0)), (0, .ref b)]) (hP : va_P g.1 vwCl (wX g σ) H) (hPM : va_P g.1 vwCl (wM g h μ) H) (hS : va_S (fun q : Nat => s.heap.size ≤ q) s.heap H locs) (kk : ∀ (σ2 μ2 : St) (h2 : Int64) (H1 : Heap) (locs1 : List Loc), RelE (n + 1) σ2 μ2 → va_P g.1 vwCl (wX g σ2) H1 → va_P g.1 vwCl (wM g h2 μ2) H1 → va_S (fun q : Nat => s.heap.size ≤ q) s.heap H1 locs1 → W p l e room_1 s m #[Value.ref b] below meth c H1 locs1 41 10789 Q (F0 m 841 ls [])) : W p l e room_1 s m #[Value.ref b] below meth c H locs 41 10789 Q (F0 m 804 ls []) := by
  have v1 : vp_in (nI i + 1) L := lw_in (k := 1) (by omega) (nI_1 i) hi hL
  obtain ⟨r, τ, ν, e1, e2, hR2⟩ := q_count hR (xs (nI i + 1).toNatClampNeg)
  obtain ⟨e1, t1⟩ := pu_s e1
  rw [t1] at hR2
  obtain ⟨e2, t2⟩ := pu_s e2
  rw [t2] at hR2
  refine lv_aload_n C.1 C.2.1 dL_law_804 rfl (lv_at hl 2 rfl) ?_
  refine lv_aload_n C.1 C.2.1 dL_law_805 rfl (lv_at hl 3 rfl) ?_
  refine lv_iload_n C.1 C.2.1 dL_law_806 rfl (lv_at hl 0 rfl) ?_
  refine lv_iconst (v := 1) C.1 C.2.1 dL_law_807 (by decide) ?_
  refine lv_iadd C.1 C.2.1 dL_law_808 ?_
  refine va_sld C.1 C.2.1 hX hbl (Nat.not_le.mpr hbl) hS v1 dL_law_809 ?_
  refine lkVi_X (n := 1) (As := [.int (xs (nI i + 1).toNatClampNeg)]) (rest := []) (ci := 11) (q0 := 0) C (c_X11_count l g H.size σ _ e1) (List.forall_mem_cons.mpr ⟨tb_in 755 (by decide +kernel) (by decide +kernel), List.forall_mem_cons.mpr ⟨tb_in 756 (by decide +kernel) (by decide +kernel), List.forall_mem_cons.mpr ⟨tb_in 757 (by decide +kernel) (by decide +kernel), List.forall_mem_cons.mpr ⟨tb_in 57 (by decide +kernel) (by decide +kernel), List.forall_mem_cons.mpr ⟨tb_in 758 (by decide +kernel) (by decide +kernel), fun _ h => absurd h List.not_mem_nil⟩⟩⟩⟩⟩) ⟨rfl, rfl⟩ ⟨Nat.le_of_ble_eq_true rfl, Nat.le_of_ble_eq_true rfl⟩ (by decide +kernel) rfl rfl rfl hl.1 (Nat.le_of_ble_eq_true rfl) ⟨Nat.le_of_ble_eq_true rfl, Nat.le_of_ble_eq_true rfl⟩ dL_law_810 hP hPM hS rfl (fun H locs hP hPM hS => ?_)
  refine lv_aload_n C.1 C.2.1 dL_law_813 rfl (lv_at hl 1 rfl) ?_
  refine lv_aload_n C.1 C.2.1 dL_law_814 rfl (lv_at hl 3 rfl) ?_
  refine lv_iload_n C.1 C.2.1 dL_law_815 rfl (lv_at hl 0 rfl) ?_
  refine lv_iconst (v := 1) C.1 C.2.1 dL_law_816 (by decide) ?_
  refine lv_iadd C.1 C.2.1 dL_law_817 ?_
  refine va_sld C.1 C.2.1 hX hbl (Nat.not_le.mpr hbl) hS v1 dL_law_818 ?_
  refine lkVi_M (n := 1) (As := [.int (xs (nI i + 1).toNatClampNeg)]) (rest := [.int r]) (ci := 12) (q0 := 0) C2 (c_X12_count l g H.size μ _ e2) (List.forall_mem_cons.mpr ⟨tb_in 1121 (by decide +kernel) (by decide +kernel), List.forall_mem_cons.mpr ⟨tb_in 1122 (by decide +kernel) (by decide +kernel), List.forall_mem_cons.mpr ⟨tb_in 1123 (by decide +kernel) (by decide +kernel), List.forall_mem_cons.mpr ⟨tb_in 69 (by decide +kernel) (by decide +kernel), List.forall_mem_cons.mpr ⟨tb_in 1124 (by decide +kernel) (by decide +kernel), fun _ h => absurd h List.not_mem_nil⟩⟩⟩⟩⟩) ⟨rfl, rfl⟩ ⟨Nat.le_of_ble_eq_true rfl, Nat.le_of_ble_eq_true rfl⟩ (by decide +kernel) rfl rfl rfl hl.1 (Nat.le_of_ble_eq_true rfl) ⟨Nat.le_of_ble_eq_true rfl, Nat.le_of_ble_eq_true rfl⟩ dL_law_819 hPM hP hS rfl (fun H locs hPM hP hS => ?_)
  refine lv_icmp_eq (tgt := 841) C.1 C.2.1 dL_law_822 (by decide) (fun c1 => ?_) (fun c1 => absurd rfl c1)
  exact kk _ _ _ _ _ hR2 hP hPM hS
theorem lk_digest (C : CX g (fun q : Nat => s.heap.size ≤ q) p s m #[Value.ref b] meth c cL_law 4 RL) (C2 : CM g (fun q : Nat => s.heap.size ≤ q) p s m #[Value.ref b] meth c cL_law 4 RL) (hX : va_X b L xs s s.heap) (hbl : b < s.heap.size) (hi : i + 5 ≤ L) (hL : L ≤ 2560) (hN : 5000 ≤ N) (hn : n < 1000000) (hR : RelE n σ μ) (hl : lv_has ls 4 [(3, .int (nI i)), (2, .ref (g.2.2 31)), (1, .ref (g.2.2 0)), (0, .ref b)]) (hP : va_P g.1 vwCl (wX g σ) H) (hPM : va_P g.1 vwCl (wM g h μ) H) (hS : va_S (fun q : Nat => s.heap.size ≤ q) s.heap H locs) (kk : ∀ (σ2 μ2 : St) (h2 : Int64) (H1 : Heap) (locs1 : List Loc), RelE (n + 1) σ2 μ2 → va_P g.1 vwCl (wX g σ2) H1 → va_P g.1 vwCl (wM g h2 μ2) H1 → va_S (fun q : Nat => s.heap.size ≤ q) s.heap H1 locs1 → W p l e room_1 s m #[Value.ref b] below meth c H1 locs1 41 10789 Q (F0 m 841 ls [])) : W p l e room_1 s m #[Value.ref b] below meth c H locs 41 10789 Q (F0 m 827 ls []) := by
  obtain ⟨r, τ, ν, h2, e1, e2, hR2⟩ := q_digest (N := N) hN hR h
  refine lv_aload_n C.1 C.2.1 dL_law_827 rfl (lv_at hl 2 rfl) ?_
  refine lkVl_X (n := 0) (As := []) (rest := []) (ci := 11) (q0 := 0) C (c_X11_digest l g H.size N σ e1) (List.forall_mem_cons.mpr ⟨tb_in 759 (by decide +kernel) (by decide +kernel), List.forall_mem_cons.mpr ⟨tb_in 760 (by decide +kernel) (by decide +kernel), List.forall_mem_cons.mpr ⟨tb_in 761 (by decide +kernel) (by decide +kernel), List.forall_mem_cons.mpr ⟨tb_in 57 (by decide +kernel) (by decide +kernel), List.forall_mem_cons.mpr ⟨tb_in 762 (by decide +kernel) (by decide +kernel), fun _ h => absurd h List.not_mem_nil⟩⟩⟩⟩⟩) ⟨rfl, rfl⟩ ⟨Nat.le_of_ble_eq_true rfl, Nat.le_of_ble_eq_true rfl⟩ (by decide +kernel) rfl rfl rfl hl.1 (Nat.le_of_ble_eq_true rfl) ⟨Nat.le_of_ble_eq_true rfl, Nat.le_of_ble_eq_true rfl⟩ dL_law_828 hP hPM hS rfl (fun H locs hP hPM hS => ?_)
  refine lv_aload_n C.1 C.2.1 dL_law_831 rfl (lv_at hl 1 rfl) ?_
  refine lkVl_M (n := 0) (As := []) (rest := [.long r]) (ci := 12) (q0 := 0) C2 (c_X12_digest l g H.size N μ h e2) (List.forall_mem_cons.mpr ⟨tb_in 1129 (by decide +kernel) (by decide +kernel), List.forall_mem_cons.mpr ⟨tb_in 1130 (by decide +kernel) (by decide +kernel), List.forall_mem_cons.mpr ⟨tb_in 1131 (by decide +kernel) (by decide +kernel), List.forall_mem_cons.mpr ⟨tb_in 69 (by decide +kernel) (by decide +kernel), List.forall_mem_cons.mpr ⟨tb_in 1132 (by decide +kernel) (by decide +kernel), fun _ h => absurd h List.not_mem_nil⟩⟩⟩⟩⟩) ⟨rfl, rfl⟩ ⟨Nat.le_of_ble_eq_true rfl, Nat.le_of_ble_eq_true rfl⟩ (by decide +kernel) rfl rfl rfl hl.1 (Nat.le_of_ble_eq_true rfl) ⟨Nat.le_of_ble_eq_true rfl, Nat.le_of_ble_eq_true rfl⟩ dL_law_832 hPM hP hS rfl (fun H locs hPM hP hS => ?_)
  refine W.lcmp C.1 C.2.1 dL_law_835 ?_
  refine lv_if_eq (tgt := 841) C.1 C.2.1 dL_law_836 (by decide) (fun c1 => ?_) (fun c1 => absurd (lw_cmp r) c1)
  exact kk _ _ _ _ _ hR2 hP hPM hS
end LAWC
