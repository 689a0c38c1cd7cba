/-! constructors: what they stand on, rows -/
abbrev tyc (cA : Nat → ClassId) : List (ClassId × FieldType) := [(cA 0, .int), (cA 1, .boolean), (cA 2, .object "JudgedRows$Judge")]
def nwl : List (String × Nat × MethodName) := [(RX11, 11, yX3_init), (RX11, 18, yX2_init), (RX11, 21, yX7_init), (RX11, 24, yX8_init), (RX11, 27, yX10_init), (RX11, 30, yX1_init), (RX11, 41, yX0_init), (RX11, 51, yX6_init), (RX7, 1, yX2_init), (RX8, 1, yX2_init), (RX10, 1, yX2_init), (RX1, 1, yX7_init)]
def ncl : List String := [RX7, RX8, RX10, RX1]
/-- what the constructors link -/
def NwI (U : State) : Prop := (∀ q ∈ nwl, va_Nw (.methodLinkNest q.1 q.2.1 q.2.2 "JudgedRows") U) ∧ (∀ q ∈ ncl, va_Nw (.castable q "JudgedRows$Judge") U) ∧ va_AO "JudgedRows$Judge" U
theorem NwI.warm {s U : State} (hW : s.WarmedH U.vm) (h : NwI s) : NwI U := ⟨fun q hq => va_Nw.warmM hW (h.1 q hq), fun q hq => va_Nw.warmC hW (h.2.1 q hq), va_AO.moved hW.alike h.2.2⟩
theorem NwI.blind {U : State} {f : JFrame} {mk : MethodId} {a : Array Value} (h : NwI U) : NwI (U.calling f mk a) := ⟨fun q hq => va_Nw.same (u := U) (U := U.calling f mk a) rfl rfl (h.1 q hq), fun q hq => va_Nw.same (u := U) (U := U.calling f mk a) rfl rfl (h.2.1 q hq), va_AO.moved (u := U) (U := U.calling f mk a) (Vm.Alike.refl U.vm) h.2.2⟩
def CI (D : va_G) (cA : Nat → ClassId) (A : Nat → Prop) (p : Program) (s : State) (m : MethodId) (args : Array Value) (meth : Method) (c : Code) (cc : ByteArray) (nL : Nat) (own : String) : Prop :=
  p.tables.exec = Jvm.exec ∧ c.code = cc ∧ c.maxLocals = nL ∧ s.vm.findClass own = some m.cls ∧ (∀ w ∈ tb, w.before args s = true) ∧ va_K D vwCl (tyc cA) s ∧ NwI s ∧ (∀ q, s.heap.size ≤ q → A q) ∧ meth.locks = false
def PcI (D : va_G) (cA : Nat → ClassId) (w : va_W) (av : List Value) (sz : Nat) : Array Value → State → Prop := va_Pc av (fun U => U.heap.size = sz ∧ va_P D vwCl w U.heap ∧ va_K D vwCl (tyc cA) U ∧ va_D (fun _ => True) w ∧ NwI U)
def QI (D : va_G) (cA : Nat → ClassId) (w : va_W) (w' : (Nat → Nat) → va_W) (sz : Nat) : Array Value → State → Outcome → State → Prop := va_Qv (fun _ : Nat → Nat => True) (fun a t => va_P D vwCl (w' a) t.heap ∧ va_K D vwCl (tyc cA) t ∧ va_D (va_A w sz) (w' a)) (va_A w sz)
theorem blind_I {D : va_G} {cA : Nat → ClassId} {w : va_W} {av : List Value} {sz : Nat} : FrameBlind (PcI D cA w av sz) := by
  intro a U f mk q
  obtain ⟨q0, q1, qP, qK, qD, qN⟩ := q
  exact ⟨q0, q1, qP, va_K.moved (u := U) (U := U.calling f mk a) (Vm.Alike.refl U.vm) qK, qD, qN.blind⟩
section CTOR
variable {p : Program} {l : Launch} {e : Env} {R : Room} {s : State} {m : MethodId} {args : Array Value} {below : List Frame} {meth : Method} {c : Code} {H : Heap} {locs : List Loc} {cells slots : Nat} {Q : State → Prop} {cc : ByteArray} {nL pc : Nat} {own : String} {ls : Array Slot} {rest : List Value} {D : va_G} {cA : Nat → ClassId} {A : Nat → Prop} {ws : va_W}
theorem CI.of {y : MethodName} {wd : List Cond} {rm : Room} {maxL : Nat} {ret : Option FieldType} {av : List Value} {s₁ : State} (B : BodyLoose p l y (headSpec wd rm) cc maxL ret e s m args below meth c s₁) (hml : c.maxLocals = maxL) (hw : ∀ w ∈ tb, w ∈ wd) (hy : y.cls = own) (hv : PcI D cA ws av s.heap.size args s) : CI D cA (va_A ws s.heap.size) p s m args meth c cc maxL own := by
  obtain ⟨-, -, -, hK, hD, hN⟩ := hv
  have hts := atoms_spec (ws := wd) B.pre
  exact ⟨B.exec, B.bytes, hml, hy ▸ findClass_of_methodNamed B.named, fun w h => hts w (hw w h), hK, hN, fun q h => Or.inr h, B.notSynchronized⟩
theorem oi_I (C : CI D cA A p s m args meth c cc nL own) {idx a : Nat} (hlk : Cond.methodLink own idx objectInit ∈ tb) (hls : ls.size = nL) (hfr : 1 ≤ R.frames) (hlo : 12 ≤ R.locals) (hd : decode cc pc = .ok (.invokespecial idx, 3))
    (kk : W p l e R s m args below meth c H locs cells slots Q (F0 m (pc + 3) ls [])) : W p l e R s m args below meth c H locs cells slots Q (F0 m pc ls [.ref a]) := by
  refine W.objInit C.1 C.2.1 C.2.2.2.1 (C.2.2.2.2.1 _ hlk) (C.2.2.2.2.1 (.instanceMethod objectInit) (tb_in 84 (by decide +kernel) (by decide +kernel))) (C.2.2.2.2.1 (.code objectInit ⟨#[0xb1]⟩ 1 none) (tb_in 85 (by decide +kernel) (by decide +kernel))) rfl (hls.trans C.2.2.1.symm) rfl hd hfr (by simpa using hlo) ?_
  exact W.eq (g2 := F0 m (pc + 3) ls []) rfl kk
theorem ni_I (C : CI D cA A p s m args meth c cc nL own) (hP : va_P D vwCl ws H) (hD : va_D A ws) (hS : va_S A s.heap H locs) {n : Int32} {N : Nat} (hn : ¬ n < 0) (hN : n.toNatClampNeg = N) (hby : N * 4 ≤ 536870912) (hc : cells + 1 ≤ R.cells) (hs : slots + N ≤ R.slots) (hd : decode cc pc = .ok (.newarray .int, 2))
    (kk : ∀ (q : Nat) (H1 : Heap), va_P D vwCl (ws ++ [(q, .inl (cA 0, N, .inl (fun _ => 0)))]) H1 → va_D A (ws ++ [(q, .inl (cA 0, N, .inl (fun _ => 0)))]) → va_S A s.heap H1 locs → W p l e R s m args below meth c H1 locs (cells + 1) (slots + N) Q (F0 m (pc + 2) ls (.ref q :: rest))) : W p l e R s m args below meth c H locs cells slots Q (F0 m pc ls (.int n :: rest)) := by
  refine va_newa (atype := .int) (ty := .int) (a0 := (N, .inl (fun _ => 0))) C.1 C.2.1 (C.2.2.2.2.1 (.arrayClass .int) (tb_in 101 (by decide +kernel) (by decide +kernel))) rfl C.2.2.2.2.2.1 hP hD hS C.2.2.2.2.2.2.2.1 (fun _ => rfl) hn hN hby hc hs hd (fun q c0 H1 hK1 hP1 hD1 hS1 => ?_)
  have h1 : s.vm.findClass ("[" ++ FieldType.int.toString) = some c0 := (hK1.2 3 (c0, .int) rfl).2
  have h2 : s.vm.findClass ("[" ++ FieldType.int.toString) = some (cA 0) := (C.2.2.2.2.2.1.2 0 (cA 0, .int) rfl).2
  obtain rfl : c0 = cA 0 := Option.some.inj (h1.symm.trans h2)
  exact kk q H1 hP1 hD1 hS1
theorem zi_I (C : CI D cA A p s m args meth c cc nL own) (hP : va_P D vwCl ws H) (hD : va_D A ws) (hS : va_S A s.heap H locs) {n : Int32} {N : Nat} (hn : ¬ n < 0) (hN : n.toNatClampNeg = N) (hby : N * 1 ≤ 536870912) (hc : cells + 1 ≤ R.cells) (hs : slots + N ≤ R.slots) (hd : decode cc pc = .ok (.newarray .boolean, 2))
    (kk : ∀ (q : Nat) (H1 : Heap), va_P D vwCl (ws ++ [(q, .inl (cA 1, N, .inl (fun _ => 0)))]) H1 → va_D A (ws ++ [(q, .inl (cA 1, N, .inl (fun _ => 0)))]) → va_S A s.heap H1 locs → W p l e R s m args below meth c H1 locs (cells + 1) (slots + N) Q (F0 m (pc + 2) ls (.ref q :: rest))) : W p l e R s m args below meth c H locs cells slots Q (F0 m pc ls (.int n :: rest)) := by
  refine va_newa (atype := .boolean) (ty := .boolean) (a0 := (N, .inl (fun _ => 0))) C.1 C.2.1 (C.2.2.2.2.1 (.arrayClass .boolean) (tb_in 226 (by decide +kernel) (by decide +kernel))) rfl C.2.2.2.2.2.1 hP hD hS C.2.2.2.2.2.2.2.1 (fun _ => rfl) hn hN hby hc hs hd (fun q c0 H1 hK1 hP1 hD1 hS1 => ?_)
  have h1 : s.vm.findClass ("[" ++ FieldType.boolean.toString) = some c0 := (hK1.2 3 (c0, .boolean) rfl).2
  have h2 : s.vm.findClass ("[" ++ FieldType.boolean.toString) = some (cA 1) := (C.2.2.2.2.2.1.2 1 (cA 1, .boolean) rfl).2
  obtain rfl : c0 = cA 1 := Option.some.inj (h1.symm.trans h2)
  exact kk q H1 hP1 hD1 hS1
theorem qi_I (C : CI D cA A p s m args meth c cc nL own) (hP : va_P D vwCl ws H) (hD : va_D A ws) (hS : va_S A s.heap H locs) {index : Nat} (hcl : Cond.classLink own index "JudgedRows$Judge" ∈ tb) {n : Int32} {N : Nat} (hn : ¬ n < 0) (hN : n.toNatClampNeg = N) (hby : N * 4 ≤ 536870912) (hc : cells + 1 ≤ R.cells) (hs : slots + N ≤ R.slots) (hd : decode cc pc = .ok (.anewarray index, 3))
    (kk : ∀ (q : Nat) (H1 : Heap), va_P D vwCl (ws ++ [(q, .inl (cA 2, N, .inr (.inr (.inr (.inr (fun _ => none))))))]) H1 → va_D A (ws ++ [(q, .inl (cA 2, N, .inr (.inr (.inr (.inr (fun _ => none))))))]) → va_S A s.heap H1 locs → W p l e R s m args below meth c H1 locs (cells + 1) (slots + N) Q (F0 m (pc + 3) ls (.ref q :: rest))) : W p l e R s m args below meth c H locs cells slots Q (F0 m pc ls (.int n :: rest)) := by
  refine va_newq C.1 C.2.1 C.2.2.2.1 (C.2.2.2.2.1 _ hcl) C.2.2.2.2.2.2.1.2.2 C.2.2.2.2.2.1 hP hD hS C.2.2.2.2.2.2.2.1 hn hN hby hc hs hd (fun q c0 H1 hK1 hP1 hD1 hS1 => ?_)
  obtain ⟨k1, d1, -, -, -, h1⟩ := (hK1.2 3 (c0, .object "JudgedRows$Judge") rfl).2
  obtain ⟨k2, d2, -, -, -, h2⟩ := (C.2.2.2.2.2.1.2 2 (cA 2, .object "JudgedRows$Judge") rfl).2
  obtain rfl : c0 = cA 2 := Option.some.inj (h1.symm.trans h2)
  exact kk q H1 hP1 hD1 hS1
/-- a constructor's call: a nest mate's private one -/
theorem cn_I (C : CI D cA A p s m args meth c cc nL own) {y : MethodName} {bytes : ByteArray} {maxL index n mc ms b : Nat} {rm : Room} {As st : List Value} {wc wr : va_W} {w' : (Nat → Nat) → va_W} (hM : Met l y (Cond.code y bytes maxL none :: tb) rm (PcI D cA wc (.ref b :: As) H.size) (QI D cA wc w' H.size) mc ms (va_A wc H.size)) (hP : va_P D vwCl ws H) (hD : va_D A ws) (hS : va_S A s.heap H locs) (isC isR : List Nat) (hC : isC.map (fun i => ws[i]?) = wc.map some) (hC2 : isC.filterMap (fun i => ws[i]?) = wc) (hR : isR.map (fun i => ws[i]?) = wr.map some) (hnC : va_nd isC = true) (hnR : va_nd isR = true) (hdis : ∀ i ∈ isR, i ∉ isC)
    (hnest : (own, index, y) ∈ nwl) (hw : ∀ w ∈ ([.initialized y.cls, .instanceMethod y, Cond.code y bytes maxL none] : List Cond), w ∈ tb) (hy1 : y.name = "<init>") (hrm : rm.cells = mc ∧ rm.slots = ms) (hRm : rm.frames + 1 ≤ R.frames ∧ 8 + (maxL + 11) + rm.locals ≤ R.locals) (hy : y.cls ≠ "java/lang/invoke/MethodHandle" ∧ y.cls ≠ "java/lang/invoke/VarHandle" ∧ (parseMethodDescriptor y.desc).map (fun d => d.parameters.length) = some n) (hn : As.length = n) (hls : ls.size = nL) (hst : st = As.reverse ++ .ref b :: rest) (hcat : (rest.map fun v => v.category).sum ≤ 8) (hcs : cells + mc ≤ R.cells ∧ slots + ms ≤ R.slots) (hd : decode cc pc = .ok (.invokespecial index, 3))
    (kk : ∀ (a : Nat → Nat) (H1 : Heap) (locs1 : List Loc), va_P D vwCl (wr ++ w' a) H1 → va_D A (wr ++ w' a) → va_S A s.heap H1 locs1 → W p l e R s m args below meth c H1 locs1 (cells + mc) (slots + ms) Q (F0 m (pc + 3) ls rest)) : W p l e R s m args below meth c H locs cells slots Q (F0 m pc ls st) := by
  have hPc := hP.sub (ws' := wc) isC hC2
  have hDc := hD.sub (ws' := wc) isC hnC hC
  have hFc := va_free (wc := wc) hD hS C.2.2.2.2.2.2.2.1 isC hC
  refine va_callv (va_runIN (As := As) (rest := rest) (b := b) ⟨C.1, C.2.1, C.2.2.1, C.2.2.2.1, C.2.2.2.2.1⟩ hM ⟨va_cnB n C.2.2.2.2.1 (tb_sub ?_) rfl hrm.1 hrm.2 (C.2.2.2.2.2.2.1.1 _ hnest) (C.2.2.2.2.1 _ (hw _ (List.mem_of_getElem? (i := 0) rfl))) hy hRm, hy1, C.2.2.2.2.1 _ (hw _ (List.mem_of_getElem? (i := 1) rfl))⟩ ⟨blind_I, fun U hU hW => ⟨rfl, by rw [hU], by rw [hU]; exact hPc, va_K.moved hW.alike C.2.2.2.2.2.1, hDc.weaken (fun _ _ _ _ => trivial), C.2.2.2.2.2.2.1.warm hW⟩⟩ rfl hn hls hst (lv_room hcat) hd hcs) hS (fun q _ h => hFc q h) hFc (fun a t H1 locs1 ht hvm hw' hB hz hk hS1 => ?_)
  · intro w h
    rcases List.mem_cons.mp h with h | h
    · rw [h]; exact hw _ (List.mem_of_getElem? (i := 2) rfl)
    · exact h
  · obtain ⟨hP1, hK1, hD1⟩ := hB
    rw [ht] at hP1
    obtain ⟨hP2, hD2⟩ := va_join (wr := wr) (w1 := w' a) hP hD isC isR hC hR hnR hdis hk hFc hP1 hD1
    exact kk a H1 locs1 hP2 hD2 hS1
/-- a constructor's call: any other -/
theorem cd_I (C : CI D cA A p s m args meth c cc nL own) {y : MethodName} {bytes : ByteArray} {maxL index n mc ms b : Nat} {rm : Room} {As st : List Value} {wc wr : va_W} {w' : (Nat → Nat) → va_W} (hM : Met l y (Cond.code y bytes maxL none :: tb) rm (PcI D cA wc (.ref b :: As) H.size) (QI D cA wc w' H.size) mc ms (va_A wc H.size)) (hP : va_P D vwCl ws H) (hD : va_D A ws) (hS : va_S A s.heap H locs) (isC isR : List Nat) (hC : isC.map (fun i => ws[i]?) = wc.map some) (hC2 : isC.filterMap (fun i => ws[i]?) = wc) (hR : isR.map (fun i => ws[i]?) = wr.map some) (hnC : va_nd isC = true) (hnR : va_nd isR = true) (hdis : ∀ i ∈ isR, i ∉ isC)
    (hw : ∀ w ∈ ([.initialized y.cls, .instanceMethod y, Cond.code y bytes maxL none, .methodLink own index y] : List Cond), w ∈ tb) (hy1 : y.name = "<init>") (hrm : rm.cells = mc ∧ rm.slots = ms) (hRm : rm.frames + 1 ≤ R.frames ∧ 8 + (maxL + 11) + rm.locals ≤ R.locals) (hy : y.cls ≠ "java/lang/invoke/MethodHandle" ∧ y.cls ≠ "java/lang/invoke/VarHandle" ∧ (parseMethodDescriptor y.desc).map (fun d => d.parameters.length) = some n) (hn : As.length = n) (hls : ls.size = nL) (hst : st = As.reverse ++ .ref b :: rest) (hcat : (rest.map fun v => v.category).sum ≤ 8) (hcs : cells + mc ≤ R.cells ∧ slots + ms ≤ R.slots) (hd : decode cc pc = .ok (.invokespecial index, 3))
    (kk : ∀ (a : Nat → Nat) (H1 : Heap) (locs1 : List Loc), va_P D vwCl (wr ++ w' a) H1 → va_D A (wr ++ w' a) → va_S A s.heap H1 locs1 → W p l e R s m args below meth c H1 locs1 (cells + mc) (slots + ms) Q (F0 m (pc + 3) ls rest)) : W p l e R s m args below meth c H locs cells slots Q (F0 m pc ls st) := by
  have hPc := hP.sub (ws' := wc) isC hC2
  have hDc := hD.sub (ws' := wc) isC hnC hC
  have hFc := va_free (wc := wc) hD hS C.2.2.2.2.2.2.2.1 isC hC
  refine va_callv (va_runI (As := As) (rest := rest) (b := b) ⟨C.1, C.2.1, C.2.2.1, C.2.2.2.1, C.2.2.2.2.1⟩ hM (cwI n C.2.2.2.2.1 (tb_sub ?_) rfl hrm.1 hrm.2 (C.2.2.2.2.1 _ (hw _ (List.mem_of_getElem? (i := 0) rfl))) (C.2.2.2.2.1 _ (hw _ (List.mem_of_getElem? (i := 3) rfl))) (C.2.2.2.2.1 _ (hw _ (List.mem_of_getElem? (i := 1) rfl))) hy1 hy hRm) ⟨blind_I, fun U hU hW => ⟨rfl, by rw [hU], by rw [hU]; exact hPc, va_K.moved hW.alike C.2.2.2.2.2.1, hDc.weaken (fun _ _ _ _ => trivial), C.2.2.2.2.2.2.1.warm hW⟩⟩ rfl hn hls hst (lv_room hcat) hd hcs) hS (fun q _ h => hFc q h) hFc (fun a t H1 locs1 ht hvm hw' hB hz hk hS1 => ?_)
  · intro w h
    rcases List.mem_cons.mp h with h | h
    · rw [h]; exact hw _ (List.mem_of_getElem? (i := 2) rfl)
    · exact h
  · obtain ⟨hP1, hK1, hD1⟩ := hB
    rw [ht] at hP1
    obtain ⟨hP2, hD2⟩ := va_join (wr := wr) (w1 := w' a) hP hD isC isR hC hR hnR hdis hk hFc hP1 hD1
    exact kk a H1 locs1 hP2 hD2 hS1
/-- a constructor's end -/
theorem rv_I (C : CI D cA A p s m args meth c cc nL own) {w0 : va_W} {w' : (Nat → Nat) → va_W} (hAe : A = va_A w0 s.heap.size) (hr : meth.sig.returnType = none) (a : Nat → Nat) (hP : va_P D vwCl (w' a) H) (hD : va_D A (w' a)) (hS : va_S A s.heap H locs) (hd : decode cc pc = .ok (.return_, 1)) : W p l e R s m args below meth c H locs cells slots (MQ below (QI D cA w0 w' s.heap.size) args s cells slots A) (F0 m pc ls []) := by
  subst hAe
  exact W.vret C.1 C.2.1 hr (fun t ht hW => ⟨⟨a, rfl, trivial, by rw [ht]; exact hP, va_K.moved hW.alike C.2.2.2.2.2.1, hD⟩, hS.F ht⟩) hS.2.2 hd (hlocks := C.2.2.2.2.2.2.2.2)
end CTOR
