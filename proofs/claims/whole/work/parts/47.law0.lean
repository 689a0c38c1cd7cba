/-! the law: a call leaves the other world as it was -/
theorem lw_keepM {g : Gx} {H H1 : Heap} {h : Int64} {μ : St} (hi : Inj g) (hP : va_P g.1 vwCl (wM g h μ) H) (hk : ∀ q : Nat, q < H.size → ¬ AX g H.size q → H1[q]? = H[q]?) : va_P g.1 vwCl (wM g h μ) H1 := by
  refine hP.kept (fun k q hq => ?_)
  obtain ⟨a1, a2⟩ := at_M hq
  have hl := (hP k q hq).lt
  refine hk q.1 hl (fun hA => ?_)
  rcases hA with ⟨j, hj, e⟩ | hA
  · rw [a2] at e
    have := hi (31 + k) (0 + j) (by omega) (by omega) e
    omega
  · omega
theorem lw_keepX {g : Gx} {H H1 : Heap} {σ : St} (hi : Inj g) (hP : va_P g.1 vwCl (wX g σ) H) (hk : ∀ q : Nat, q < H.size → ¬ AM g H.size q → H1[q]? = H[q]?) : va_P g.1 vwCl (wX g σ) H1 := by
  refine hP.kept (fun k q hq => ?_)
  obtain ⟨a1, a2⟩ := at_X hq
  have hl := (hP k q hq).lt
  refine hk q.1 hl (fun hA => ?_)
  rcases hA with ⟨j, hj, e⟩ | hA
  · rw [a2] at e
    have := hi (0 + k) (31 + j) (by omega) (by omega) e
    omega
  · omega
section LWX
variable {p : Program} {l : Launch} {e : Env} {R : Room} {s : State} {m : MethodId} {args : Array Value} {below : List Frame} {meth : Method} {c : Code} {H : Heap} {locs : List Loc} {cells slots : Nat} {Q : State → Prop} {cc : ByteArray} {nL pc : Nat} {ls : Array Slot} {own : String} {rest : List Value} {g : Gx} {A : Nat → Prop} {σ : St} {h9 : Int64} {μ9 : St}
theorem lkVi_X (C : CX g A p s m args meth c cc nL own) {y : MethodName} {bytes : ByteArray} {maxL index n : Nat} {ret : Option FieldType} {rm : Room} {As st : List Value} {r : Int32} {u : St} {Cn : String} {ci q0 b N : Nat} {Tt : u_T} {fs : List Value} (hM : Met l y (Cond.code y bytes maxL ret :: tb) rm (PcX g (.ref b :: As) σ H.size) (QiX g (AX g H.size) r u) 0 0 (AX g H.size)) (hw : ∀ w ∈ ([.methodLink own index y, .instanceMethod y, .selects Cn y y, .initialized Cn, Cond.code y bytes maxL ret] : List Cond), w ∈ tb) (hrm : rm.cells = 0 ∧ rm.slots = 0) (hR : rm.frames + 1 ≤ R.frames ∧ 8 + (maxL + 11) + rm.locals ≤ R.locals) (hy : y.cls = Cn ∧ y.cls ≠ "java/lang/invoke/MethodHandle" ∧ y.cls ≠ "java/lang/invoke/VarHandle" ∧ (parseMethodDescriptor y.desc).map (fun d => d.parameters.length) = some n) (hcl : vwCl[ci]? = some (Cn, Tt, N)) (hre : (wX g σ)[q0]? = some (b, .inr (ci, fs))) (hn : As.length = n) (hls : ls.size = nL) (hcat : (rest.map fun v => v.category).sum ≤ 8) (hcs : cells ≤ R.cells ∧ slots ≤ R.slots) (hd : decode cc pc = .ok (.invokevirtual index, 3)) (hP : va_P g.1 vwCl (wX g σ) H) (hO : va_P g.1 vwCl (wM g h9 μ9) H) (hS : va_S A s.heap H locs) (hst : st = As.reverse ++ .ref b :: rest) (kk : ∀ (H1 : Heap) (locs1 : List Loc), va_P g.1 vwCl (wX g u) H1 → va_P g.1 vwCl (wM g h9 μ9) H1 → va_S A s.heap H1 locs1 → W p l e R s m args below meth c H1 locs1 cells slots Q (F0 m (pc + 3) ls (.int r :: rest))) : W p l e R s m args below meth c H locs cells slots Q (F0 m pc ls st) := by
  refine va_calli (va_runV (As := As) (rest := rest) (b := b) ⟨C.1, C.2.1, C.2.2.1, C.2.2.2.1, C.2.2.2.2.1⟩ hM (cwV n C.2.2.2.2.1 (tb_sub ?_) rfl hrm.1 hrm.2 hy hR) ⟨blind_X, va_recv C.2.2.2.2.2.1 hP hcl hre, fun U hU hW => C.pre hP hS hU hW⟩ rfl hn hls hst (lv_room hcat) hd hcs) hS (fun q _ h => C.sub hS q h) (C.sub hS) (fun r' u' t H1 locs1 ht hvm hw' hB hz hk hS1 => ?_)
  · intro w h
    rcases List.mem_append.mp h with h | h
    · exact hw w (List.mem_append_left [Cond.code y bytes maxL ret] h)
    · rcases List.mem_cons.mp h with h | h
      · rw [h]; exact hw _ (List.mem_of_getElem? (i := 4) rfl)
      · exact h
  · obtain ⟨rfl, rfl⟩ := hw'
    exact kk H1 locs1 (C.back ht hB) (lw_keepM C.2.2.2.2.2.2.1 hO hk) hS1
theorem lkVl_X (C : CX g A p s m args meth c cc nL own) {y : MethodName} {bytes : ByteArray} {maxL index n : Nat} {ret : Option FieldType} {rm : Room} {As st : List Value} {r : Int64} {u : St} {Cn : String} {ci q0 b N : Nat} {Tt : u_T} {fs : List Value} (hM : Met l y (Cond.code y bytes maxL ret :: tb) rm (PcX g (.ref b :: As) σ H.size) (QlX g (AX g H.size) r u) 0 0 (AX g H.size)) (hw : ∀ w ∈ ([.methodLink own index y, .instanceMethod y, .selects Cn y y, .initialized Cn, Cond.code y bytes maxL ret] : List Cond), w ∈ tb) (hrm : rm.cells = 0 ∧ rm.slots = 0) (hR : rm.frames + 1 ≤ R.frames ∧ 8 + (maxL + 11) + rm.locals ≤ R.locals) (hy : y.cls = Cn ∧ y.cls ≠ "java/lang/invoke/MethodHandle" ∧ y.cls ≠ "java/lang/invoke/VarHandle" ∧ (parseMethodDescriptor y.desc).map (fun d => d.parameters.length) = some n) (hcl : vwCl[ci]? = some (Cn, Tt, N)) (hre : (wX g σ)[q0]? = some (b, .inr (ci, fs))) (hn : As.length = n) (hls : ls.size = nL) (hcat : (rest.map fun v => v.category).sum ≤ 8) (hcs : cells ≤ R.cells ∧ slots ≤ R.slots) (hd : decode cc pc = .ok (.invokevirtual index, 3)) (hP : va_P g.1 vwCl (wX g σ) H) (hO : va_P g.1 vwCl (wM g h9 μ9) H) (hS : va_S A s.heap H locs) (hst : st = As.reverse ++ .ref b :: rest) (kk : ∀ (H1 : Heap) (locs1 : List Loc), va_P g.1 vwCl (wX g u) H1 → va_P g.1 vwCl (wM g h9 μ9) H1 → va_S A s.heap H1 locs1 → W p l e R s m args below meth c H1 locs1 cells slots Q (F0 m (pc + 3) ls (.long r :: rest))) : W p l e R s m args below meth c H locs cells slots Q (F0 m pc ls st) := by
  refine va_calll (va_runV (As := As) (rest := rest) (b := b) ⟨C.1, C.2.1, C.2.2.1, C.2.2.2.1, C.2.2.2.2.1⟩ hM (cwV n C.2.2.2.2.1 (tb_sub ?_) rfl hrm.1 hrm.2 hy hR) ⟨blind_X, va_recv C.2.2.2.2.2.1 hP hcl hre, fun U hU hW => C.pre hP hS hU hW⟩ rfl hn hls hst (lv_room hcat) hd hcs) hS (fun q _ h => C.sub hS q h) (C.sub hS) (fun r' u' t H1 locs1 ht hvm hw' hB hz hk hS1 => ?_)
  · intro w h
    rcases List.mem_append.mp h with h | h
    · exact hw w (List.mem_append_left [Cond.code y bytes maxL ret] h)
    · rcases List.mem_cons.mp h with h | h
      · rw [h]; exact hw _ (List.mem_of_getElem? (i := 4) rfl)
      · exact h
  · obtain ⟨rfl, rfl⟩ := hw'
    exact kk H1 locs1 (C.back ht hB) (lw_keepM C.2.2.2.2.2.2.1 hO hk) hS1
end LWX
section LWM
variable {p : Program} {l : Launch} {e : Env} {R : Room} {s : State} {m : MethodId} {args : Array Value} {below : List Frame} {meth : Method} {c : Code} {H : Heap} {locs : List Loc} {cells slots : Nat} {Q : State → Prop} {cc : ByteArray} {nL pc : Nat} {ls : Array Slot} {own : String} {rest : List Value} {g : Gx} {A : Nat → Prop} {σ : St} {h : Int64} {h' : Int64} {σ9 : St}
theorem lkVi_M (C : CM g A p s m args meth c cc nL own) {y : MethodName} {bytes : ByteArray} {maxL index n : Nat} {ret : Option FieldType} {rm : Room} {As st : List Value} {r : Int32} {u : St} {Cn : String} {ci q0 b N : Nat} {Tt : u_T} {fs : List Value} (hM : Met l y (Cond.code y bytes maxL ret :: tb) rm (PcM g h (.ref b :: As) σ H.size) (QiM g h' (AM g H.size) r u) 0 0 (AM g H.size)) (hw : ∀ w ∈ ([.methodLink own index y, .instanceMethod y, .selects Cn y y, .initialized Cn, Cond.code y bytes maxL ret] : List Cond), w ∈ tb) (hrm : rm.cells = 0 ∧ rm.slots = 0) (hR : rm.frames + 1 ≤ R.frames ∧ 8 + (maxL + 11) + rm.locals ≤ R.locals) (hy : y.cls = Cn ∧ y.cls ≠ "java/lang/invoke/MethodHandle" ∧ y.cls ≠ "java/lang/invoke/VarHandle" ∧ (parseMethodDescriptor y.desc).map (fun d => d.parameters.length) = some n) (hcl : vwCl[ci]? = some (Cn, Tt, N)) (hre : (wM g h σ)[q0]? = some (b, .inr (ci, fs))) (hn : As.length = n) (hls : ls.size = nL) (hcat : (rest.map fun v => v.category).sum ≤ 8) (hcs : cells ≤ R.cells ∧ slots ≤ R.slots) (hd : decode cc pc = .ok (.invokevirtual index, 3)) (hP : va_P g.1 vwCl (wM g h σ) H) (hO : va_P g.1 vwCl (wX g σ9) H) (hS : va_S A s.heap H locs) (hst : st = As.reverse ++ .ref b :: rest) (kk : ∀ (H1 : Heap) (locs1 : List Loc), va_P g.1 vwCl (wM g h' u) H1 → va_P g.1 vwCl (wX g σ9) H1 → va_S A s.heap H1 locs1 → W p l e R s m args below meth c H1 locs1 cells slots Q (F0 m (pc + 3) ls (.int r :: rest))) : W p l e R s m args below meth c H locs cells slots Q (F0 m pc ls st) := by
  refine va_calli (va_runV (As := As) (rest := rest) (b := b) ⟨C.1, C.2.1, C.2.2.1, C.2.2.2.1, C.2.2.2.2.1⟩ hM (cwV n C.2.2.2.2.1 (tb_sub ?_) rfl hrm.1 hrm.2 hy hR) ⟨blind_M, va_recv C.2.2.2.2.2.1 hP hcl hre, fun U hU hW => C.pre hP hS hU hW⟩ rfl hn hls hst (lv_room hcat) hd hcs) hS (fun q _ h => C.sub hS q h) (C.sub hS) (fun r' u' t H1 locs1 ht hvm hw' hB hz hk hS1 => ?_)
  · intro w h
    rcases List.mem_append.mp h with h | h
    · exact hw w (List.mem_append_left [Cond.code y bytes maxL ret] h)
    · rcases List.mem_cons.mp h with h | h
      · rw [h]; exact hw _ (List.mem_of_getElem? (i := 4) rfl)
      · exact h
  · obtain ⟨rfl, rfl⟩ := hw'
    exact kk H1 locs1 (C.back ht hB) (lw_keepX C.2.2.2.2.2.2.1 hO hk) hS1
theorem lkVl_M (C : CM g A p s m args meth c cc nL own) {y : MethodName} {bytes : ByteArray} {maxL index n : Nat} {ret : Option FieldType} {rm : Room} {As st : List Value} {r : Int64} {u : St} {Cn : String} {ci q0 b N : Nat} {Tt : u_T} {fs : List Value} (hM : Met l y (Cond.code y bytes maxL ret :: tb) rm (PcM g h (.ref b :: As) σ H.size) (QlM g h' (AM g H.size) r u) 0 0 (AM g H.size)) (hw : ∀ w ∈ ([.methodLink own index y, .instanceMethod y, .selects Cn y y, .initialized Cn, Cond.code y bytes maxL ret] : List Cond), w ∈ tb) (hrm : rm.cells = 0 ∧ rm.slots = 0) (hR : rm.frames + 1 ≤ R.frames ∧ 8 + (maxL + 11) + rm.locals ≤ R.locals) (hy : y.cls = Cn ∧ y.cls ≠ "java/lang/invoke/MethodHandle" ∧ y.cls ≠ "java/lang/invoke/VarHandle" ∧ (parseMethodDescriptor y.desc).map (fun d => d.parameters.length) = some n) (hcl : vwCl[ci]? = some (Cn, Tt, N)) (hre : (wM g h σ)[q0]? = some (b, .inr (ci, fs))) (hn : As.length = n) (hls : ls.size = nL) (hcat : (rest.map fun v => v.category).sum ≤ 8) (hcs : cells ≤ R.cells ∧ slots ≤ R.slots) (hd : decode cc pc = .ok (.invokevirtual index, 3)) (hP : va_P g.1 vwCl (wM g h σ) H) (hO : va_P g.1 vwCl (wX g σ9) H) (hS : va_S A s.heap H locs) (hst : st = As.reverse ++ .ref b :: rest) (kk : ∀ (H1 : Heap) (locs1 : List Loc), va_P g.1 vwCl (wM g h' u) H1 → va_P g.1 vwCl (wX g σ9) H1 → va_S A s.heap H1 locs1 → W p l e R s m args below meth c H1 locs1 cells slots Q (F0 m (pc + 3) ls (.long r :: rest))) : W p l e R s m args below meth c H locs cells slots Q (F0 m pc ls st) := by
  refine va_calll (va_runV (As := As) (rest := rest) (b := b) ⟨C.1, C.2.1, C.2.2.1, C.2.2.2.1, C.2.2.2.2.1⟩ hM (cwV n C.2.2.2.2.1 (tb_sub ?_) rfl hrm.1 hrm.2 hy hR) ⟨blind_M, va_recv C.2.2.2.2.2.1 hP hcl hre, fun U hU hW => C.pre hP hS hU hW⟩ rfl hn hls hst (lv_room hcat) hd hcs) hS (fun q _ h => C.sub hS q h) (C.sub hS) (fun r' u' t H1 locs1 ht hvm hw' hB hz hk hS1 => ?_)
  · intro w h
    rcases List.mem_append.mp h with h | h
    · exact hw w (List.mem_append_left [Cond.code y bytes maxL ret] h)
    · rcases List.mem_cons.mp h with h | h
      · rw [h]; exact hw _ (List.mem_of_getElem? (i := 4) rfl)
      · exact h
  · obtain ⟨rfl, rfl⟩ := hw'
    exact kk H1 locs1 (C.back ht hB) (lw_keepX C.2.2.2.2.2.2.1 hO hk) hS1
end LWM
