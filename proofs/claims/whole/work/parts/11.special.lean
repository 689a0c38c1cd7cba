/-! rows of one place each -/
section SPE
variable {p : Program} {l : Launch} {e : Env} {R : Room} {s : State} {m : MethodId} {args : Array Value} {below : List Frame} {meth : Method} {c : Code} {H : Heap} {locs : List Loc} {cells slots : Nat} {Q : State → Prop} {cc : ByteArray} {nL pc : Nat} {ls : Array Slot} {own : String} {rest : List Value} {g : Gx} {A : Nat → Prop} {σ : St} {h : Int64}
theorem w_rd {x y : Int32} (h : x = y) (k : W p l e R s m args below meth c H locs cells slots Q (F0 m pc ls (.int y :: rest))) : W p l e R s m args below meth c H locs cells slots Q (F0 m pc ls (.int x :: rest)) := h ▸ k
theorem wH {H' : Heap} {f : JFrame} (h : H = H') (k : W p l e R s m args below meth c H locs cells slots Q f) : W p l e R s m args below meth c H' locs cells slots Q f := h ▸ k
theorem wL {locs' : List Loc} {f : JFrame} (h : locs = locs') (k : W p l e R s m args below meth c H locs cells slots Q f) : W p l e R s m args below meth c H locs' cells slots Q f := h ▸ k
theorem aj_X (C : CX g A p s m args meth c cc nL own) (hP : va_P g.1 vwCl (wX g σ) H) {i : Int32} (hin : vp_in i 5) (hd : decode cc pc = .ok (.aaload, 1)) (kk : W p l e R s m args below meth c H locs cells slots Q (F0 m (pc + 1) ls (.ref (g.2.2 (4 + i.toNatClampNeg)) :: rest))) : W p l e R s m args below meth c H locs cells slots Q (F0 m pc ls (.int i :: .ref (g.2.2 3) :: rest)) :=
  va_aldq C.1 C.2.1 C.2.2.2.2.2.1 hP 3 2 rfl rfl hin hd kk
theorem mx_X (C : CX g A p s m args meth c cc nL own) {index : Nat} {x y : Int32} (hw : ∀ w ∈ ([.methodLink own index Lib.Math.max.name, .static Lib.Math.max.name, .initialized "java/lang/Math", Cond.code Lib.Math.max.name Lib.Math.max.code 2 (some .int)] : List Cond), w ∈ tb) (hls : ls.size = nL) (hf : 1 ≤ R.frames) (hlo : (rest.map fun v => v.category).sum + 13 ≤ R.locals) (hcs : cells ≤ R.cells ∧ slots ≤ R.slots) (hd : decode cc pc = .ok (.invokestatic index, 3)) (kk : W p l e R s m args below meth c H locs cells slots Q (F0 m (pc + 3) ls (.int (if x < y then y else x) :: rest))) : W p l e R s m args below meth c H locs cells slots Q (F0 m pc ls (.int y :: .int x :: rest)) :=
  va_mmax C.1 C.2.1 (C.2.2.1.trans hls.symm) C.2.2.2.1 (C.2.2.2.2.1 _ (hw _ (List.mem_of_getElem? (i := 0) rfl))) (C.2.2.2.2.1 _ (hw _ (List.mem_of_getElem? (i := 1) rfl))) (C.2.2.2.2.1 _ (hw _ (List.mem_of_getElem? (i := 2) rfl))) (C.2.2.2.2.1 _ (hw _ (List.mem_of_getElem? (i := 3) rfl))) hf hlo hcs.1 hcs.2 hd kk
theorem mn_X (C : CX g A p s m args meth c cc nL own) {index : Nat} {x y : Int32} (hw : ∀ w ∈ ([.methodLink own index Lib.Math.min.name, .static Lib.Math.min.name, .initialized "java/lang/Math", Cond.code Lib.Math.min.name Lib.Math.min.code 2 (some .int)] : List Cond), w ∈ tb) (hls : ls.size = nL) (hf : 1 ≤ R.frames) (hlo : (rest.map fun v => v.category).sum + 13 ≤ R.locals) (hcs : cells ≤ R.cells ∧ slots ≤ R.slots) (hd : decode cc pc = .ok (.invokestatic index, 3)) (kk : W p l e R s m args below meth c H locs cells slots Q (F0 m (pc + 3) ls (.int (if y < x then y else x) :: rest))) : W p l e R s m args below meth c H locs cells slots Q (F0 m pc ls (.int y :: .int x :: rest)) :=
  va_mmin C.1 C.2.1 (C.2.2.1.trans hls.symm) C.2.2.2.1 (C.2.2.2.2.1 _ (hw _ (List.mem_of_getElem? (i := 0) rfl))) (C.2.2.2.2.1 _ (hw _ (List.mem_of_getElem? (i := 1) rfl))) (C.2.2.2.2.1 _ (hw _ (List.mem_of_getElem? (i := 2) rfl))) (C.2.2.2.2.1 _ (hw _ (List.mem_of_getElem? (i := 3) rfl))) hf hlo hcs.1 hcs.2 hd kk
theorem rb_X (C : CX g A p s m args meth c cc nL own) {v : Int32} (hr : meth.sig.returnType = some .byte) (hz : narrow .byte (.int v) = .int v) (hP : va_P g.1 vwCl (wX g σ) H) (hS : va_S A s.heap H locs) (hd : decode cc pc = .ok (.ireturn, 1)) : W p l e R s m args below meth c H locs 0 0 (MQ below (QiX g A v σ) args s 0 0 A) (F0 m pc ls [.int v]) :=
  W.zret (v := v) C.1 C.2.1 hr hz (fun t ht hW => ⟨⟨v, σ, rfl, ⟨rfl, rfl⟩, by rw [ht]; exact hP, va_K.moved hW.alike C.2.2.2.2.2.1⟩, hS.F ht⟩) hS.2.2 hd (hlocks := C.2.2.2.2.2.2.2.2.2.1)
theorem cp_X (C : CX g A p s m args meth c cc nL own) {index : Nat} {n : Int32} {n0 k0 k1 : Nat} (hw : ∀ w ∈ ([.methodLink own index arraycopyName, .native arraycopyName, .static arraycopyName, .initialized "java/lang/System"] : List Cond), w ∈ tb) (hP : va_P g.1 vwCl (wX g σ) H) (hS : va_S A s.heap H locs) (q0 q1 : Nat) (ha0 : (wX g σ)[q0]? = some (g.2.2 k0, .inl (g.2.1 0, n0, .inl (σ k0)))) (ha1 : (wX g σ)[q1]? = some (g.2.2 k1, .inl (g.2.1 0, n0, .inl (σ k1)))) (hn : ¬ n < 0) (hn0 : n.toNatClampNeg = n0) (hls : ls.size = nL) (hf : 1 ≤ R.frames) (hlo : (rest.map fun v => v.category).sum + (nativeFrameWords "java/lang/System" "arraycopy" 5 + 11) ≤ R.locals) (hd : decode cc pc = .ok (.invokestatic index, 3)) (he : (wX g σ).set q1 (g.2.2 k1, .inl (g.2.1 0, n0, .inl (va_cpy (σ k0) (σ k1) 0 0 n0))) = wX g (pa σ k1 (va_cpy (σ k0) (σ k1) 0 0 n0)))
    (kk : ∀ (H1 : Heap) (locs1 : List Loc), va_P g.1 vwCl (wX g (pa σ k1 (va_cpy (σ k0) (σ k1) 0 0 n0))) H1 → va_S A s.heap H1 locs1 → W p l e R s m args below meth c H1 locs1 cells slots Q (F0 m (pc + 3) ls rest)) : W p l e R s m args below meth c H locs cells slots Q (F0 m pc ls (.int n :: .int (0 : Int32) :: .ref (g.2.2 k1) :: .int (0 : Int32) :: .ref (g.2.2 k0) :: rest)) := by
  have z : (0 : Int32).toNatClampNeg = 0 := by decide
  refine va_copyi (ty := .int) C.1 C.2.1 (C.2.2.1.trans hls.symm) C.2.2.2.1 (C.2.2.2.2.1 _ (hw _ (List.mem_of_getElem? (i := 0) rfl))) (C.2.2.2.2.1 _ (hw _ (List.mem_of_getElem? (i := 1) rfl))) (C.2.2.2.2.1 _ (hw _ (List.mem_of_getElem? (i := 2) rfl))) (C.2.2.2.2.1 _ (hw _ (List.mem_of_getElem? (i := 3) rfl))) C.2.2.2.2.2.1 hP C.D hS q0 q1 0 0 ha0 ha1 rfl rfl rfl (by decide) (by decide) hn (by rw [z, hn0]; omega) (by rw [z, hn0]; omega) (fun i _ => rfl) hf hlo hd (fun H1 locs1 h1 _ h3 => kk H1 locs1 ?_ h3)
  rw [z, hn0, he] at h1
  exact h1
theorem st_2 {i : Nat} {x : Int32} : (wX g σ).set 2 (g.2.2 2, .inl (g.2.1 0, 12, .inl (upd (σ 2) i x))) = wX g (pt σ 2 i x) := rfl
theorem st_9 {i : Nat} {x : Int32} : (wX g σ).set 9 (g.2.2 9, .inl (g.2.1 0, 5, .inl (upd (σ 9) i x))) = wX g (pt σ 9 i x) := rfl
theorem st_11 {i : Nat} {x : Int32} : (wX g σ).set 11 (g.2.2 11, .inl (g.2.1 0, 3, .inl (upd (σ 11) i x))) = wX g (pt σ 11 i x) := rfl
theorem st_12 {i : Nat} {x : Int32} : (wX g σ).set 12 (g.2.2 12, .inl (g.2.1 0, 12, .inl (upd (σ 12) i x))) = wX g (pt σ 12 i x) := rfl
theorem st_13 {i : Nat} {x : Int32} : (wX g σ).set 13 (g.2.2 13, .inl (g.2.1 0, 12, .inl (upd (σ 13) i x))) = wX g (pt σ 13 i x) := rfl
theorem st_14 {i : Nat} {x : Int32} : (wX g σ).set 14 (g.2.2 14, .inl (g.2.1 0, 12, .inl (upd (σ 14) i x))) = wX g (pt σ 14 i x) := rfl
theorem st_16 {i : Nat} {x : Int32} : (wX g σ).set 16 (g.2.2 16, .inl (g.2.1 0, 3, .inl (upd (σ 16) i x))) = wX g (pt σ 16 i x) := rfl
theorem st_17 {i : Nat} {x : Int32} : (wX g σ).set 17 (g.2.2 17, .inl (g.2.1 0, 12, .inl (upd (σ 17) i x))) = wX g (pt σ 17 i x) := rfl
theorem st_18 {i : Nat} {x : Int32} : (wX g σ).set 18 (g.2.2 18, .inl (g.2.1 0, 12, .inl (upd (σ 18) i x))) = wX g (pt σ 18 i x) := rfl
theorem st_19 {i : Nat} {x : Int32} : (wX g σ).set 19 (g.2.2 19, .inl (g.2.1 0, 12, .inl (upd (σ 19) i x))) = wX g (pt σ 19 i x) := rfl
theorem st_21 {i : Nat} {x : Int32} : (wX g σ).set 21 (g.2.2 21, .inl (g.2.1 0, 216, .inl (upd (σ 21) i x))) = wX g (pt σ 21 i x) := rfl
theorem st_22 {i : Nat} {x : Int32} : (wX g σ).set 22 (g.2.2 22, .inl (g.2.1 0, 216, .inl (upd (σ 22) i x))) = wX g (pt σ 22 i x) := rfl
theorem st_23 {i : Nat} {x : Int32} : (wX g σ).set 23 (g.2.2 23, .inl (g.2.1 0, 216, .inl (upd (σ 23) i x))) = wX g (pt σ 23 i x) := rfl
theorem st_25 {i : Nat} {x : Int32} : (wX g σ).set 25 (g.2.2 25, .inl (g.2.1 0, 216, .inl (upd (σ 25) i x))) = wX g (pt σ 25 i x) := rfl
theorem st_26 {i : Nat} {x : Int32} : (wX g σ).set 26 (g.2.2 26, .inl (g.2.1 1, 216, .inl (upd (σ 26) i x))) = wX g (pt σ 26 i x) := rfl
theorem st_27 {i : Nat} {x : Int32} : (wX g σ).set 27 (g.2.2 27, .inl (g.2.1 0, 31, .inl (upd (σ 27) i x))) = wX g (pt σ 27 i x) := rfl
theorem st_29 {i : Nat} {x : Int32} : (wX g σ).set 29 (g.2.2 29, .inl (g.2.1 0, 961, .inl (upd (σ 29) i x))) = wX g (pt σ 29 i x) := rfl
theorem st_32 {i : Nat} {x : Int32} : (wM g h σ).set 1 (g.2.2 32, .inl (g.2.1 0, 12, .inl (upd (σ 32) i x))) = wM g h (pt σ 32 i x) := rfl
theorem st_33 {i : Nat} {x : Int32} : (wM g h σ).set 2 (g.2.2 33, .inl (g.2.1 0, 3, .inl (upd (σ 33) i x))) = wM g h (pt σ 33 i x) := rfl
theorem st_34 {i : Nat} {x : Int32} : (wM g h σ).set 3 (g.2.2 34, .inl (g.2.1 0, 36, .inl (upd (σ 34) i x))) = wM g h (pt σ 34 i x) := rfl
theorem st_35 {i : Nat} {x : Int32} : (wM g h σ).set 4 (g.2.2 35, .inl (g.2.1 0, 216, .inl (upd (σ 35) i x))) = wM g h (pt σ 35 i x) := rfl
theorem st_36 {i : Nat} {x : Int32} : (wM g h σ).set 5 (g.2.2 36, .inl (g.2.1 0, 41, .inl (upd (σ 36) i x))) = wM g h (pt σ 36 i x) := rfl
theorem st_37 {i : Nat} {x : Int32} : (wM g h σ).set 6 (g.2.2 37, .inl (g.2.1 0, 4096, .inl (upd (σ 37) i x))) = wM g h (pt σ 37 i x) := rfl
theorem st_38 {i : Nat} {x : Int32} : (wM g h σ).set 7 (g.2.2 38, .inl (g.2.1 0, 4096, .inl (upd (σ 38) i x))) = wM g h (pt σ 38 i x) := rfl
theorem st_39 {i : Nat} {x : Int32} : (wM g h σ).set 8 (g.2.2 39, .inl (g.2.1 0, 3, .inl (upd (σ 39) i x))) = wM g h (pt σ 39 i x) := rfl
theorem st_40 {i : Nat} {x : Int32} : (wM g h σ).set 9 (g.2.2 40, .inl (g.2.1 0, 36, .inl (upd (σ 40) i x))) = wM g h (pt σ 40 i x) := rfl
theorem kVi_S (C : CX g A p s m args meth c cc nL own) {y : MethodName} {bytes : ByteArray} {maxL index n : Nat} {ret : Option FieldType} {rm : Room} {As st : List Value} {r : Int32} {u : St} {Cn : String} {b : Nat} (hM : Met l y (Cond.code y bytes maxL ret :: tb) rm (PcX g (.ref b :: As) σ H.size) (QiX g (AX g H.size) r u) 0 0 (AX g H.size)) (hw : ∀ w ∈ ([.methodLink own index y, .instanceMethod y, .selects Cn y y, .initialized Cn, Cond.code y bytes maxL ret] : List Cond), w ∈ tb) (hrm : rm.cells = 0 ∧ rm.slots = 0) (hR : rm.frames + 1 ≤ R.frames ∧ 8 + (maxL + 11) + rm.locals ≤ R.locals) (hy : y.cls = Cn ∧ y.cls ≠ "java/lang/invoke/MethodHandle" ∧ y.cls ≠ "java/lang/invoke/VarHandle" ∧ (parseMethodDescriptor y.desc).map (fun d => d.parameters.length) = some n) (hrec : ∃ cell : Cell, H[b]? = some cell ∧ cell.vm.isStatics = false ∧ s.vm.findClass Cn = some cell.cls) (hn : As.length = n) (hls : ls.size = nL) (hcat : (rest.map fun v => v.category).sum ≤ 8) (hcs : cells ≤ R.cells ∧ slots ≤ R.slots) (hd : decode cc pc = .ok (.invokevirtual index, 3)) (hP : va_P g.1 vwCl (wX g σ) H) (hS : va_S A s.heap H locs) (hst : st = As.reverse ++ .ref b :: rest) (kk : ∀ (H1 : Heap) (locs1 : List Loc), va_P g.1 vwCl (wX g u) H1 → va_S A s.heap H1 locs1 → W p l e R s m args below meth c H1 locs1 cells slots Q (F0 m (pc + 3) ls (.int r :: rest))) : W p l e R s m args below meth c H locs cells slots Q (F0 m pc ls st) := by
  refine va_calli (va_runV (As := As) (rest := rest) (b := b) ⟨C.1, C.2.1, C.2.2.1, C.2.2.2.1, C.2.2.2.2.1⟩ hM (cwV n C.2.2.2.2.1 (tb_sub ?_) rfl hrm.1 hrm.2 hy hR) ⟨blind_X, hrec, fun U hU hW => C.pre hP hS hU hW⟩ rfl hn hls hst (lv_room hcat) hd hcs) hS (fun q _ h => C.sub hS q h) (C.sub hS) (fun r' u' t H1 locs1 ht hvm hw' hB hz hk hS1 => ?_)
  · intro w h
    rcases List.mem_append.mp h with h | h
    · exact hw w (List.mem_append_left [Cond.code y bytes maxL ret] h)
    · rcases List.mem_cons.mp h with h | h
      · rw [h]; exact hw _ (List.mem_of_getElem? (i := 4) rfl)
      · exact h
  · obtain ⟨rfl, rfl⟩ := hw'
    exact kk H1 locs1 (C.back ht hB) hS1
theorem io_1 (C : CX g A p s m args meth c cc nL RX11) {k : Nat} (hk : k < 5) (hP : va_P g.1 vwCl (wX g σ) H) (hd : decode cc pc = .ok (.instanceof 19, 3)) (kk : W p l e R s m args below meth c H locs cells slots Q (F0 m (pc + 3) ls (.int (inK 1 k) :: rest))) : W p l e R s m args below meth c H locs cells slots Q (F0 m pc ls (.ref (g.2.2 (4 + k)) :: rest)) := by
  have hl := C.2.2.2.2.1 (.classLink RX11 19 RX7) (tb_in 110 (by decide +kernel) (by decide +kernel))
  rcases (show k = 0 ∨ k = 1 ∨ k = 2 ∨ k = 3 ∨ k = 4 by omega) with rfl | rfl | rfl | rfl | rfl
  · exact va_instNo C.1 C.2.1 C.2.2.2.1 hl (C.2.2.2.2.2.2.2.2.2.2.2.2.2.2 (RX2, RX7) (by decide +kernel)) (va_recv C.2.2.2.2.2.1 hP (ci := 2) (q0 := 4) rfl rfl) hd kk
  · exact va_instE C.1 C.2.1 C.2.2.2.1 hl (va_recv C.2.2.2.2.2.1 hP (ci := 7) (q0 := 5) rfl rfl) hd kk
  · exact va_instNo C.1 C.2.1 C.2.2.2.1 hl (C.2.2.2.2.2.2.2.2.2.2.2.2.2.2 (RX8, RX7) (by decide +kernel)) (va_recv C.2.2.2.2.2.1 hP (ci := 8) (q0 := 6) rfl rfl) hd kk
  · exact va_instNo C.1 C.2.1 C.2.2.2.1 hl (C.2.2.2.2.2.2.2.2.2.2.2.2.2.2 (RX10, RX7) (by decide +kernel)) (va_recv C.2.2.2.2.2.1 hP (ci := 10) (q0 := 7) rfl rfl) hd kk
  · exact va_instY C.1 C.2.1 C.2.2.2.1 hl C.2.2.2.2.2.2.2.2.2.2.2.2.2.1 (va_recv C.2.2.2.2.2.1 hP (ci := 1) (q0 := 8) rfl rfl) hd kk
theorem io_2 (C : CX g A p s m args meth c cc nL RX11) {k : Nat} (hk : k < 5) (hP : va_P g.1 vwCl (wX g σ) H) (hd : decode cc pc = .ok (.instanceof 22, 3)) (kk : W p l e R s m args below meth c H locs cells slots Q (F0 m (pc + 3) ls (.int (inK 2 k) :: rest))) : W p l e R s m args below meth c H locs cells slots Q (F0 m pc ls (.ref (g.2.2 (4 + k)) :: rest)) := by
  have hl := C.2.2.2.2.1 (.classLink RX11 22 RX8) (tb_in 117 (by decide +kernel) (by decide +kernel))
  rcases (show k = 0 ∨ k = 1 ∨ k = 2 ∨ k = 3 ∨ k = 4 by omega) with rfl | rfl | rfl | rfl | rfl
  · exact va_instNo C.1 C.2.1 C.2.2.2.1 hl (C.2.2.2.2.2.2.2.2.2.2.2.2.2.2 (RX2, RX8) (by decide +kernel)) (va_recv C.2.2.2.2.2.1 hP (ci := 2) (q0 := 4) rfl rfl) hd kk
  · exact va_instNo C.1 C.2.1 C.2.2.2.1 hl (C.2.2.2.2.2.2.2.2.2.2.2.2.2.2 (RX7, RX8) (by decide +kernel)) (va_recv C.2.2.2.2.2.1 hP (ci := 7) (q0 := 5) rfl rfl) hd kk
  · exact va_instE C.1 C.2.1 C.2.2.2.1 hl (va_recv C.2.2.2.2.2.1 hP (ci := 8) (q0 := 6) rfl rfl) hd kk
  · exact va_instNo C.1 C.2.1 C.2.2.2.1 hl (C.2.2.2.2.2.2.2.2.2.2.2.2.2.2 (RX10, RX8) (by decide +kernel)) (va_recv C.2.2.2.2.2.1 hP (ci := 10) (q0 := 7) rfl rfl) hd kk
  · exact va_instNo C.1 C.2.1 C.2.2.2.1 hl (C.2.2.2.2.2.2.2.2.2.2.2.2.2.2 (RX1, RX8) (by decide +kernel)) (va_recv C.2.2.2.2.2.1 hP (ci := 1) (q0 := 8) rfl rfl) hd kk
theorem io_3 (C : CX g A p s m args meth c cc nL RX11) {k : Nat} (hk : k < 5) (hP : va_P g.1 vwCl (wX g σ) H) (hd : decode cc pc = .ok (.instanceof 25, 3)) (kk : W p l e R s m args below meth c H locs cells slots Q (F0 m (pc + 3) ls (.int (inK 3 k) :: rest))) : W p l e R s m args below meth c H locs cells slots Q (F0 m pc ls (.ref (g.2.2 (4 + k)) :: rest)) := by
  have hl := C.2.2.2.2.1 (.classLink RX11 25 RX10) (tb_in 124 (by decide +kernel) (by decide +kernel))
  rcases (show k = 0 ∨ k = 1 ∨ k = 2 ∨ k = 3 ∨ k = 4 by omega) with rfl | rfl | rfl | rfl | rfl
  · exact va_instNo C.1 C.2.1 C.2.2.2.1 hl (C.2.2.2.2.2.2.2.2.2.2.2.2.2.2 (RX2, RX10) (by decide +kernel)) (va_recv C.2.2.2.2.2.1 hP (ci := 2) (q0 := 4) rfl rfl) hd kk
  · exact va_instNo C.1 C.2.1 C.2.2.2.1 hl (C.2.2.2.2.2.2.2.2.2.2.2.2.2.2 (RX7, RX10) (by decide +kernel)) (va_recv C.2.2.2.2.2.1 hP (ci := 7) (q0 := 5) rfl rfl) hd kk
  · exact va_instNo C.1 C.2.1 C.2.2.2.1 hl (C.2.2.2.2.2.2.2.2.2.2.2.2.2.2 (RX8, RX10) (by decide +kernel)) (va_recv C.2.2.2.2.2.1 hP (ci := 8) (q0 := 6) rfl rfl) hd kk
  · exact va_instE C.1 C.2.1 C.2.2.2.1 hl (va_recv C.2.2.2.2.2.1 hP (ci := 10) (q0 := 7) rfl rfl) hd kk
  · exact va_instNo C.1 C.2.1 C.2.2.2.1 hl (C.2.2.2.2.2.2.2.2.2.2.2.2.2.2 (RX1, RX10) (by decide +kernel)) (va_recv C.2.2.2.2.2.1 hP (ci := 1) (q0 := 8) rfl rfl) hd kk
theorem io_4 (C : CX g A p s m args meth c cc nL RX11) {k : Nat} (hk : k < 5) (hP : va_P g.1 vwCl (wX g σ) H) (hd : decode cc pc = .ok (.instanceof 28, 3)) (kk : W p l e R s m args below meth c H locs cells slots Q (F0 m (pc + 3) ls (.int (inK 4 k) :: rest))) : W p l e R s m args below meth c H locs cells slots Q (F0 m pc ls (.ref (g.2.2 (4 + k)) :: rest)) := by
  have hl := C.2.2.2.2.1 (.classLink RX11 28 RX1) (tb_in 131 (by decide +kernel) (by decide +kernel))
  rcases (show k = 0 ∨ k = 1 ∨ k = 2 ∨ k = 3 ∨ k = 4 by omega) with rfl | rfl | rfl | rfl | rfl
  · exact va_instNo C.1 C.2.1 C.2.2.2.1 hl (C.2.2.2.2.2.2.2.2.2.2.2.2.2.2 (RX2, RX1) (by decide +kernel)) (va_recv C.2.2.2.2.2.1 hP (ci := 2) (q0 := 4) rfl rfl) hd kk
  · exact va_instNo C.1 C.2.1 C.2.2.2.1 hl (C.2.2.2.2.2.2.2.2.2.2.2.2.2.2 (RX7, RX1) (by decide +kernel)) (va_recv C.2.2.2.2.2.1 hP (ci := 7) (q0 := 5) rfl rfl) hd kk
  · exact va_instNo C.1 C.2.1 C.2.2.2.1 hl (C.2.2.2.2.2.2.2.2.2.2.2.2.2.2 (RX8, RX1) (by decide +kernel)) (va_recv C.2.2.2.2.2.1 hP (ci := 8) (q0 := 6) rfl rfl) hd kk
  · exact va_instNo C.1 C.2.1 C.2.2.2.1 hl (C.2.2.2.2.2.2.2.2.2.2.2.2.2.2 (RX10, RX1) (by decide +kernel)) (va_recv C.2.2.2.2.2.1 hP (ci := 10) (q0 := 7) rfl rfl) hd kk
  · exact va_instE C.1 C.2.1 C.2.2.2.1 hl (va_recv C.2.2.2.2.2.1 hP (ci := 1) (q0 := 8) rfl rfl) hd kk
end SPE
