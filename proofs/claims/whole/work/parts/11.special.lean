/-! rows of one place each -/
section SPE
variable {p : Program} {l : Launch} {e : Env} {R : Room} {s : State} {m : MethodId} {args : Array Value} {below : List Frame} {meth : Method} {c : Code} {H : Heap} {locs : List Loc} {cells slots : Nat} {Q : State → Prop} {cc : ByteArray} {nL pc : Nat} {ls : Array Slot} {own : String} {rest : List Value} {g : Gx} {A : Nat → Prop} {σ : St} {h : Int64}
theorem wH {H' : Heap} {f : JFrame} (h : H = H') (k : W p l e R s m args below meth c H locs cells slots Q f) : W p l e R s m args below meth c H' locs cells slots Q f := h ▸ k
theorem wL {locs' : List Loc} {f : JFrame} (h : locs = locs') (k : W p l e R s m args below meth c H locs cells slots Q f) : W p l e R s m args below meth c H locs' cells slots Q f := h ▸ k
theorem aj_X (C : CX g A p s m args meth c cc nL own) (hP : va_P g.1 vwCl (wX g σ) H) {i : Int32} (hin : vp_in i 5) (hd : decode cc pc = .ok (.aaload, 1)) (kk : W p l e R s m args below meth c H locs cells slots Q (F0 m (pc + 1) ls (.ref (g.2.2 (4 + i.toNatClampNeg)) :: rest))) : W p l e R s m args below meth c H locs cells slots Q (F0 m pc ls (.int i :: .ref (g.2.2 3) :: rest)) :=
  va_aldq C.1 C.2.1 C.2.2.2.2.2.1 hP 3 2 rfl rfl hin hd kk
theorem mx_X (C : CX g A p s m args meth c cc nL own) {index : Nat} {x y : Int32} (hw : ∀ w ∈ ([.methodLink own index Lib.Math.max.name, .static Lib.Math.max.name, .initialized "java/lang/Math", Cond.code Lib.Math.max.name Lib.Math.max.code 2 (some .int)] : List Cond), w ∈ tb) (hls : ls.size = nL) (hf : 1 ≤ R.frames) (hlo : (rest.map fun v => v.category).sum + 13 ≤ R.locals) (hcs : cells ≤ R.cells ∧ slots ≤ R.slots) (hd : decode cc pc = .ok (.invokestatic index, 3)) (kk : W p l e R s m args below meth c H locs cells slots Q (F0 m (pc + 3) ls (.int (if x < y then y else x) :: rest))) : W p l e R s m args below meth c H locs cells slots Q (F0 m pc ls (.int y :: .int x :: rest)) :=
  va_mmax C.1 C.2.1 (C.2.2.1.trans hls.symm) C.2.2.2.1 (C.2.2.2.2.1 _ (hw _ (List.mem_of_getElem? (i := 0) rfl))) (C.2.2.2.2.1 _ (hw _ (List.mem_of_getElem? (i := 1) rfl))) (C.2.2.2.2.1 _ (hw _ (List.mem_of_getElem? (i := 2) rfl))) (C.2.2.2.2.1 _ (hw _ (List.mem_of_getElem? (i := 3) rfl))) hf hlo hcs.1 hcs.2 hd kk
theorem cp_X (C : CX g A p s m args meth c cc nL own) {index : Nat} {n : Int32} {n0 k0 k1 : Nat} (hw : ∀ w ∈ ([.methodLink own index arraycopyName, .native arraycopyName, .static arraycopyName, .initialized "java/lang/System"] : List Cond), w ∈ tb) (hP : va_P g.1 vwCl (wX g σ) H) (hS : va_S A s.heap H locs) (q0 q1 : Nat) (ha0 : (wX g σ)[q0]? = some (g.2.2 k0, .inl (g.2.1 0, n0, .inl (σ k0)))) (ha1 : (wX g σ)[q1]? = some (g.2.2 k1, .inl (g.2.1 0, n0, .inl (σ k1)))) (hn : ¬ n < 0) (hn0 : n.toNatClampNeg = n0) (hls : ls.size = nL) (hf : 1 ≤ R.frames) (hlo : (rest.map fun v => v.category).sum + (nativeFrameWords "java/lang/System" "arraycopy" 5 + 11) ≤ R.locals) (hd : decode cc pc = .ok (.invokestatic index, 3)) (he : (wX g σ).set q1 (g.2.2 k1, .inl (g.2.1 0, n0, .inl (va_cpy (σ k0) (σ k1) 0 0 n0))) = wX g (pa σ k1 (va_cpy (σ k0) (σ k1) 0 0 n0)))
    (kk : ∀ (H1 : Heap) (locs1 : List Loc), va_P g.1 vwCl (wX g (pa σ k1 (va_cpy (σ k0) (σ k1) 0 0 n0))) H1 → va_S A s.heap H1 locs1 → W p l e R s m args below meth c H1 locs1 cells slots Q (F0 m (pc + 3) ls rest)) : W p l e R s m args below meth c H locs cells slots Q (F0 m pc ls (.int n :: .int (0 : Int32) :: .ref (g.2.2 k1) :: .int (0 : Int32) :: .ref (g.2.2 k0) :: rest)) := by
  have z : (0 : Int32).toNatClampNeg = 0 := by decide
  refine va_copyi (ty := .int) C.1 C.2.1 (C.2.2.1.trans hls.symm) C.2.2.2.1 (C.2.2.2.2.1 _ (hw _ (List.mem_of_getElem? (i := 0) rfl))) (C.2.2.2.2.1 _ (hw _ (List.mem_of_getElem? (i := 1) rfl))) (C.2.2.2.2.1 _ (hw _ (List.mem_of_getElem? (i := 2) rfl))) (C.2.2.2.2.1 _ (hw _ (List.mem_of_getElem? (i := 3) rfl))) C.2.2.2.2.2.1 hP C.D hS q0 q1 0 0 ha0 ha1 rfl rfl rfl (by decide) (by decide) hn (by rw [z, hn0]; omega) (by rw [z, hn0]; omega) (fun i _ => rfl) hf hlo hd (fun H1 locs1 h1 _ h3 => kk H1 locs1 ?_ h3)
  rw [z, hn0, he] at h1
  exact h1
theorem io_1 (C : CX g A p s m args meth c cc nL RX11) {k : Nat} (hk : k < 5) (hP : va_P g.1 vwCl (wX g σ) H) (hd : decode cc pc = .ok (.instanceof 19, 3)) (kk : W p l e R s m args below meth c H locs cells slots Q (F0 m (pc + 3) ls (.int (inK 1 k) :: rest))) : W p l e R s m args below meth c H locs cells slots Q (F0 m pc ls (.ref (g.2.2 (4 + k)) :: rest)) := by
  have hl := C.2.2.2.2.1 (.classLink RX11 19 RX7) (tb_in 110 (by decide +kernel) (by decide +kernel))
  rcases (show k = 0 ∨ k = 1 ∨ k = 2 ∨ k = 3 ∨ k = 4 by omega) with rfl | rfl | rfl | rfl | rfl
  · exact va_instNo C.1 C.2.1 C.2.2.2.1 hl (C.2.2.2.2.2.2.2.2.2.2.2.2.2.2 (RX2, RX7) (by decide +kernel)) (va_recv C.2.2.2.2.2.1 hP (ci := 2) (q0 := 4) rfl rfl) hd kk
  · exact va_instE C.1 C.2.1 C.2.2.2.1 hl (va_recv C.2.2.2.2.2.1 hP (ci := 7) (q0 := 5) rfl rfl) hd kk
  · exact va_instNo C.1 C.2.1 C.2.2.2.1 hl (C.2.2.2.2.2.2.2.2.2.2.2.2.2.2 (RX8, RX7) (by decide +kernel)) (va_recv C.2.2.2.2.2.1 hP (ci := 8) (q0 := 6) rfl rfl) hd kk
  · exact va_instNo C.1 C.2.1 C.2.2.2.1 hl (C.2.2.2.2.2.2.2.2.2.2.2.2.2.2 (RX10, RX7) (by decide +kernel)) (va_recv C.2.2.2.2.2.1 hP (ci := 10) (q0 := 7) rfl rfl) hd kk
  · exact va_instY C.1 C.2.1 C.2.2.2.1 hl C.2.2.2.2.2.2.2.2.2.2.2.2.2.1 (va_recv C.2.2.2.2.2.1 hP (ci := 1) (q0 := 8) rfl rfl) hd kk
theorem io_2 (C : CX g A p s m args meth c cc nL RX11) {k : Nat} (hk : k < 5) (hP : va_P g.1 vwCl (wX g σ) H) (hd : decode cc pc = .ok (.instanceof 22, 3)) (kk : W p l e R s m args below meth c H locs cells slots Q (F0 m (pc + 3) ls (.int (inK 2 k) :: rest))) : W p l e R s m args below meth c H locs cells slots Q (F0 m pc ls (.ref (g.2.2 (4 + k)) :: rest)) := by
  have hl := C.2.2.2.2.1 (.classLink RX11 22 RX8) (tb_in 117 (by decide +kernel) (by decide +kernel))
  rcases (show k = 0 ∨ k = 1 ∨ k = 2 ∨ k = 3 ∨ k = 4 by omega) with rfl | rfl | rfl | rfl | rfl
  · exact va_instNo C.1 C.2.1 C.2.2.2.1 hl (C.2.2.2.2.2.2.2.2.2.2.2.2.2.2 (RX2, RX8) (by decide +kernel)) (va_recv C.2.2.2.2.2.1 hP (ci := 2) (q0 := 4) rfl rfl) hd kk
  · exact va_instNo C.1 C.2.1 C.2.2.2.1 hl (C.2.2.2.2.2.2.2.2.2.2.2.2.2.2 (RX7, RX8) (by decide +kernel)) (va_recv C.2.2.2.2.2.1 hP (ci := 7) (q0 := 5) rfl rfl) hd kk
  · exact va_instE C.1 C.2.1 C.2.2.2.1 hl (va_recv C.2.2.2.2.2.1 hP (ci := 8) (q0 := 6) rfl rfl) hd kk
  · exact va_instNo C.1 C.2.1 C.2.2.2.1 hl (C.2.2.2.2.2.2.2.2.2.2.2.2.2.2 (RX10, RX8) (by decide +kernel)) (va_recv C.2.2.2.2.2.1 hP (ci := 10) (q0 := 7) rfl rfl) hd kk
  · exact va_instNo C.1 C.2.1 C.2.2.2.1 hl (C.2.2.2.2.2.2.2.2.2.2.2.2.2.2 (RX1, RX8) (by decide +kernel)) (va_recv C.2.2.2.2.2.1 hP (ci := 1) (q0 := 8) rfl rfl) hd kk
theorem io_3 (C : CX g A p s m args meth c cc nL RX11) {k : Nat} (hk : k < 5) (hP : va_P g.1 vwCl (wX g σ) H) (hd : decode cc pc = .ok (.instanceof 25, 3)) (kk : W p l e R s m args below meth c H locs cells slots Q (F0 m (pc + 3) ls (.int (inK 3 k) :: rest))) : W p l e R s m args below meth c H locs cells slots Q (F0 m pc ls (.ref (g.2.2 (4 + k)) :: rest)) := by
  have hl := C.2.2.2.2.1 (.classLink RX11 25 RX10) (tb_in 124 (by decide +kernel) (by decide +kernel))
  rcases (show k = 0 ∨ k = 1 ∨ k = 2 ∨ k = 3 ∨ k = 4 by omega) with rfl | rfl | rfl | rfl | rfl
  · exact va_instNo C.1 C.2.1 C.2.2.2.1 hl (C.2.2.2.2.2.2.2.2.2.2.2.2.2.2 (RX2, RX10) (by decide +kernel)) (va_recv C.2.2.2.2.2.1 hP (ci := 2) (q0 := 4) rfl rfl) hd kk
  · exact va_instNo C.1 C.2.1 C.2.2.2.1 hl (C.2.2.2.2.2.2.2.2.2.2.2.2.2.2 (RX7, RX10) (by decide +kernel)) (va_recv C.2.2.2.2.2.1 hP (ci := 7) (q0 := 5) rfl rfl) hd kk
  · exact va_instNo C.1 C.2.1 C.2.2.2.1 hl (C.2.2.2.2.2.2.2.2.2.2.2.2.2.2 (RX8, RX10) (by decide +kernel)) (va_recv C.2.2.2.2.2.1 hP (ci := 8) (q0 := 6) rfl rfl) hd kk
  · exact va_instE C.1 C.2.1 C.2.2.2.1 hl (va_recv C.2.2.2.2.2.1 hP (ci := 10) (q0 := 7) rfl rfl) hd kk
  · exact va_instNo C.1 C.2.1 C.2.2.2.1 hl (C.2.2.2.2.2.2.2.2.2.2.2.2.2.2 (RX1, RX10) (by decide +kernel)) (va_recv C.2.2.2.2.2.1 hP (ci := 1) (q0 := 8) rfl rfl) hd kk
theorem io_4 (C : CX g A p s m args meth c cc nL RX11) {k : Nat} (hk : k < 5) (hP : va_P g.1 vwCl (wX g σ) H) (hd : decode cc pc = .ok (.instanceof 28, 3)) (kk : W p l e R s m args below meth c H locs cells slots Q (F0 m (pc + 3) ls (.int (inK 4 k) :: rest))) : W p l e R s m args below meth c H locs cells slots Q (F0 m pc ls (.ref (g.2.2 (4 + k)) :: rest)) := by
  have hl := C.2.2.2.2.1 (.classLink RX11 28 RX1) (tb_in 131 (by decide +kernel) (by decide +kernel))
  rcases (show k = 0 ∨ k = 1 ∨ k = 2 ∨ k = 3 ∨ k = 4 by omega) with rfl | rfl | rfl | rfl | rfl
  · exact va_instNo C.1 C.2.1 C.2.2.2.1 hl (C.2.2.2.2.2.2.2.2.2.2.2.2.2.2 (RX2, RX1) (by decide +kernel)) (va_recv C.2.2.2.2.2.1 hP (ci := 2) (q0 := 4) rfl rfl) hd kk
  · exact va_instNo C.1 C.2.1 C.2.2.2.1 hl (C.2.2.2.2.2.2.2.2.2.2.2.2.2.2 (RX7, RX1) (by decide +kernel)) (va_recv C.2.2.2.2.2.1 hP (ci := 7) (q0 := 5) rfl rfl) hd kk
  · exact va_instNo C.1 C.2.1 C.2.2.2.1 hl (C.2.2.2.2.2.2.2.2.2.2.2.2.2.2 (RX8, RX1) (by decide +kernel)) (va_recv C.2.2.2.2.2.1 hP (ci := 8) (q0 := 6) rfl rfl) hd kk
  · exact va_instNo C.1 C.2.1 C.2.2.2.1 hl (C.2.2.2.2.2.2.2.2.2.2.2.2.2.2 (RX10, RX1) (by decide +kernel)) (va_recv C.2.2.2.2.2.1 hP (ci := 10) (q0 := 7) rfl rfl) hd kk
  · exact va_instE C.1 C.2.1 C.2.2.2.1 hl (va_recv C.2.2.2.2.2.1 hP (ci := 1) (q0 := 8) rfl rfl) hd kk
end SPE
