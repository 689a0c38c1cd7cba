/-! worlds, contexts, rows of the kit over them -/
abbrev Gx : Type := va_G × (Nat → ClassId) × (Nat → Nat)
abbrev ty3 (g : Gx) : List (ClassId × FieldType) := [(g.2.1 0, .int), (g.2.1 1, .boolean), (g.2.1 2, .object "JudgedRows$Judge")]
def tb : List Cond := lw_tbl.filter goodWord
theorem tb_in {w : Cond} (i : Nat) (h : lw_tbl[i]? = some w) (hg : goodWord w = true) : w ∈ tb := List.mem_filter.mpr ⟨List.mem_of_getElem? h, hg⟩
theorem tb_good {w : Cond} (h : w ∈ tb) : goodWord w = true := (List.mem_filter.mp h).2
theorem tb_sub {ws : List Cond} (h : ∀ w ∈ ws, w ∈ tb) : GoodIn tb ws := fun w hw => ⟨h w hw, good_of_word (tb_good (h w hw))⟩
def Inj (g : Gx) : Prop := ∀ i j : Nat, i < 41 → j < 41 → g.2.2 i = g.2.2 j → i = j
def wX (g : Gx) (σ : St) : va_W := [
  (g.2.2 0, .inr (11, [.ref (g.2.2 1), .ref (g.2.2 3), .ref (g.2.2 9), .ref (g.2.2 10), .ref (g.2.2 15), .ref (g.2.2 20), .ref (g.2.2 24), .ref (g.2.2 28), .ref (g.2.2 30), .int (σ 0 9), .int (σ 0 10), .int (σ 0 11), .int (σ 0 12), .int (σ 0 13), .int (σ 0 14)])),
  (g.2.2 1, .inr (3, [.ref (g.2.2 2), .int (σ 1 1)])),
  (g.2.2 2, .inl (g.2.1 0, 12, .inl (σ 2))),
  (g.2.2 3, .inl (g.2.1 2, 5, .inr (.inr (.inr (.inr (fun i => some (g.2.2 (4 + i)))))))),
  (g.2.2 4, .inr (2, [])),
  (g.2.2 5, .inr (7, [])),
  (g.2.2 6, .inr (8, [])),
  (g.2.2 7, .inr (10, [])),
  (g.2.2 8, .inr (1, [])),
  (g.2.2 9, .inl (g.2.1 0, 5, .inl (σ 9))),
  (g.2.2 10, .inr (0, [.ref (g.2.2 11), .ref (g.2.2 12), .ref (g.2.2 13), .ref (g.2.2 14), .int (σ 10 4), .int (σ 10 5)])),
  (g.2.2 11, .inl (g.2.1 0, 3, .inl (σ 11))),
  (g.2.2 12, .inl (g.2.1 0, 12, .inl (σ 12))),
  (g.2.2 13, .inl (g.2.1 0, 12, .inl (σ 13))),
  (g.2.2 14, .inl (g.2.1 0, 12, .inl (σ 14))),
  (g.2.2 15, .inr (0, [.ref (g.2.2 16), .ref (g.2.2 17), .ref (g.2.2 18), .ref (g.2.2 19), .int (σ 15 4), .int (σ 15 5)])),
  (g.2.2 16, .inl (g.2.1 0, 3, .inl (σ 16))),
  (g.2.2 17, .inl (g.2.1 0, 12, .inl (σ 17))),
  (g.2.2 18, .inl (g.2.1 0, 12, .inl (σ 18))),
  (g.2.2 19, .inl (g.2.1 0, 12, .inl (σ 19))),
  (g.2.2 20, .inr (6, [.int (σ 20 0), .int (σ 20 1), .int (σ 20 2), .ref (g.2.2 21), .ref (g.2.2 22), .ref (g.2.2 23)])),
  (g.2.2 21, .inl (g.2.1 0, 216, .inl (σ 21))),
  (g.2.2 22, .inl (g.2.1 0, 216, .inl (σ 22))),
  (g.2.2 23, .inl (g.2.1 0, 216, .inl (σ 23))),
  (g.2.2 24, .inr (5, [.ref (g.2.2 20), .ref (g.2.2 25), .int (σ 24 2), .ref (g.2.2 26), .ref (g.2.2 27)])),
  (g.2.2 25, .inl (g.2.1 0, 216, .inl (σ 25))),
  (g.2.2 26, .inl (g.2.1 1, 216, .inl (σ 26))),
  (g.2.2 27, .inl (g.2.1 0, 31, .inl (σ 27))),
  (g.2.2 28, .inr (4, [.ref (g.2.2 20), .ref (g.2.2 29), .int (σ 28 2), .int (σ 28 3), .int (σ 28 4), .int (σ 28 5)])),
  (g.2.2 29, .inl (g.2.1 0, 961, .inl (σ 29))),
  (g.2.2 30, .inr (9, [.ref (g.2.2 20), .ref (g.2.2 24), .int (σ 30 2), .int (σ 30 3), .int (σ 30 4)]))]
def wM (g : Gx) (h : Int64) (σ : St) : va_W := [
  (g.2.2 31, .inr (12, [.ref (g.2.2 32), .int (σ 31 1), .int (σ 31 2), .int (σ 31 3), .int (σ 31 4), .int (σ 31 5), .int (σ 31 6), .int (σ 31 7), .int (σ 31 8), .int (σ 31 9), .ref (g.2.2 33), .ref (g.2.2 34), .ref (g.2.2 35), .ref (g.2.2 36), .int (σ 31 14), .int (σ 31 15), .int (σ 31 16), .int (σ 31 17), .ref (g.2.2 37), .ref (g.2.2 38), .int (σ 31 20), .int (σ 31 21), .int (σ 31 22), .int (σ 31 23), .ref (g.2.2 39), .ref (g.2.2 40), .long h])),
  (g.2.2 32, .inl (g.2.1 0, 12, .inl (σ 32))),
  (g.2.2 33, .inl (g.2.1 0, 3, .inl (σ 33))),
  (g.2.2 34, .inl (g.2.1 0, 36, .inl (σ 34))),
  (g.2.2 35, .inl (g.2.1 0, 216, .inl (σ 35))),
  (g.2.2 36, .inl (g.2.1 0, 41, .inl (σ 36))),
  (g.2.2 37, .inl (g.2.1 0, 4096, .inl (σ 37))),
  (g.2.2 38, .inl (g.2.1 0, 4096, .inl (σ 38))),
  (g.2.2 39, .inl (g.2.1 0, 3, .inl (σ 39))),
  (g.2.2 40, .inl (g.2.1 0, 36, .inl (σ 40)))]

def exC : List Cond := [.castable "JudgedRows$CurtJudge" "JudgedRows$ShortJudge"]
def exN : List (String × String) := [("JudgedRows$Judge", "JudgedRows$ShortJudge"), ("JudgedRows$Judge", "JudgedRows$SternJudge"), ("JudgedRows$Judge", "JudgedRows$WrongJudge"), ("JudgedRows$Judge", "JudgedRows$CurtJudge"), ("JudgedRows$ShortJudge", "JudgedRows$SternJudge"), ("JudgedRows$ShortJudge", "JudgedRows$WrongJudge"), ("JudgedRows$ShortJudge", "JudgedRows$CurtJudge"), ("JudgedRows$SternJudge", "JudgedRows$ShortJudge"), ("JudgedRows$SternJudge", "JudgedRows$WrongJudge"), ("JudgedRows$SternJudge", "JudgedRows$CurtJudge"), ("JudgedRows$WrongJudge", "JudgedRows$ShortJudge"), ("JudgedRows$WrongJudge", "JudgedRows$SternJudge"), ("JudgedRows$WrongJudge", "JudgedRows$CurtJudge"), ("JudgedRows$CurtJudge", "JudgedRows$SternJudge"), ("JudgedRows$CurtJudge", "JudgedRows$WrongJudge")]
/-- what stands beside the class's world: its one text, the flag of the texts, who is of which kind -/
def ExX (g : Gx) (A : Nat → Prop) (U : State) : Prop := vk_R RX3 37 "jstwc" (g.2.2 50) U ∧ vk_S 1 [5] [[106, 115, 116, 119, 99]] (fun _ => g.2.2 50) (fun _ => g.2.2 51) A U U.heap ∧ va_Z "java/lang/String" "COMPACT_STRINGS" "Z" (.int 1) A U U.heap ∧ va_Nw (.castable "JudgedRows$CurtJudge" "JudgedRows$ShortJudge") U ∧ ∀ q ∈ exN, va_Nc q.1 q.2 U
theorem ExX.pass {g : Gx} {A B : Nat → Prop} {s U : State} {H : Heap} {locs : List Loc} (h : ExX g A s) (hS : va_S A s.heap H locs) (hU : U.heap = H) (hW : s.WarmedH U.vm) (hB : ∀ q, B q → A q) : ExX g B U := by
  subst hU
  obtain ⟨h1, h2, h3, h4, h5⟩ := h
  exact ⟨h1.warm hW, ((h2.kept hS.2.1).narrow hB).moved hW.alike, ((h3.kept hS.2.1).narrow hB).moved hW.alike, va_Nw.warmC hW h4, fun q hq => va_Nc.moved hW.alike (h5 q hq)⟩
theorem ExX.blind {g : Gx} {A : Nat → Prop} {U : State} {f : JFrame} {mk : MethodId} {a : Array Value} (h : ExX g A U) : ExX g A (U.calling f mk a) := by
  obtain ⟨h1, h2, h3, h4, h5⟩ := h
  exact ⟨h1.same rfl, vk_S.moved (u := U) (U := U.calling f mk a) (Vm.Alike.refl U.vm) h2, va_Z.moved (u := U) (U := U.calling f mk a) (Vm.Alike.refl U.vm) h3, va_Nw.same (u := U) (U := U.calling f mk a) rfl rfl h4, fun q hq => va_Nc.moved (u := U) (U := U.calling f mk a) (Vm.Alike.refl U.vm) (h5 q hq)⟩

theorem fst_X (g : Gx) (σ : St) : (wX g σ).map Prod.fst = (List.range 31).map (fun k => g.2.2 (0 + k)) := by simp [wX, List.range, List.range.loop]
theorem at_X {g : Gx} {σ : St} {i : Nat} {q : Nat × va_E} (e : (wX g σ)[i]? = some q) : i < 31 ∧ q.1 = g.2.2 (0 + i) := by
  have h1 : ((wX g σ).map Prod.fst)[i]? = some q.1 := by rw [List.getElem?_map, e]; rfl
  rw [fst_X, List.getElem?_map] at h1
  by_cases hi : i < 31
  · rw [List.getElem?_range hi] at h1
    exact ⟨hi, (Option.some.inj h1).symm⟩
  · rw [List.getElem?_eq_none (by rw [List.length_range]; omega)] at h1
    cases h1
/-- which cells a method of this side may change -/
def AX (g : Gx) (sz : Nat) : Nat → Prop := fun q => (∃ k, k < 31 ∧ q = g.2.2 (0 + k)) ∨ sz ≤ q
theorem vD_X {g : Gx} {A : Nat → Prop} (hi : Inj g) (hA : ∀ k, k < 31 → A (g.2.2 (0 + k))) (σ : St) : va_D A (wX g σ) := by
  refine ⟨fun i j p q h1 h2 e => ?_, fun k q h1 => ?_⟩
  · obtain ⟨a1, a2⟩ := at_X h1
    obtain ⟨b1, b2⟩ := at_X h2
    rw [a2, b2] at e
    have := hi (0 + i) (0 + j) (by omega) (by omega) e
    omega
  · obtain ⟨a1, a2⟩ := at_X h1
    rw [a2]; exact hA k a1
def CX (g : Gx) (A : Nat → Prop) (p : Program) (s : State) (m : MethodId) (args : Array Value) (meth : Method) (c : Code) (cc : ByteArray) (nL : Nat) (own : String) : Prop :=
  p.tables.exec = Jvm.exec ∧ c.code = cc ∧ c.maxLocals = nL ∧ s.vm.findClass own = some m.cls ∧ (∀ w ∈ tb, w.before args s = true) ∧ va_K g.1 vwCl (ty3 g) s ∧ Inj g ∧ (∀ k, k < 31 → A (g.2.2 (0 + k))) ∧ (∀ q, s.heap.size ≤ q → A q) ∧ meth.locks = false ∧ ExX g A s
def PcX (g : Gx) (av : List Value) (σ : St) (sz : Nat) : Array Value → State → Prop := va_Pc av (fun U => U.heap.size = sz ∧ va_P g.1 vwCl (wX g σ) U.heap ∧ va_K g.1 vwCl (ty3 g) U ∧ Inj g ∧ ExX g (AX g sz) U)
def BX (g : Gx) (u : St) (t : State) : Prop := va_P g.1 vwCl (wX g u) t.heap ∧ va_K g.1 vwCl (ty3 g) t
def QiX (g : Gx) (A : Nat → Prop) (r : Int32) (u : St) : Array Value → State → Outcome → State → Prop := va_Qi (fun (r' : Int32) (u' : St) => r' = r ∧ u' = u) (BX g) A
def QlX (g : Gx) (A : Nat → Prop) (r : Int64) (u : St) : Array Value → State → Outcome → State → Prop := va_Ql (fun (r' : Int64) (u' : St) => r' = r ∧ u' = u) (BX g) A
def QvX (g : Gx) (A : Nat → Prop) (u : St) : Array Value → State → Outcome → State → Prop := va_Qv (fun (u' : St) => u' = u) (BX g) A
def QrX (g : Gx) (A : Nat → Prop) (k : Nat) (u : St) : Array Value → State → Outcome → State → Prop := va_Qr (fun (u' : St) => u' = u) (fun u' a t => a = g.2.2 k ∧ BX g u' t) A
theorem blind_X {g : Gx} {av : List Value} {σ : St} {sz : Nat} : FrameBlind (PcX g av σ sz) := by
  intro a U f mk q
  obtain ⟨q0, q1, qP, qK, qI, hE⟩ := q
  exact ⟨q0, q1, qP, va_K.moved (u := U) (U := U.calling f mk a) (Vm.Alike.refl U.vm) qK, qI, hE.blind⟩
section WX
variable {p : Program} {l : Launch} {e : Env} {R : Room} {s : State} {m : MethodId} {args : Array Value} {below : List Frame} {meth : Method} {c : Code} {H : Heap} {locs : List Loc} {cells slots : Nat} {Q : State → Prop} {cc : ByteArray} {nL pc : Nat} {own : String} {ls : Array Slot} {rest : List Value} {g : Gx} {A : Nat → Prop} {σ : St}
theorem CX.D (C : CX g A p s m args meth c cc nL own) : va_D A (wX g σ) := vD_X C.2.2.2.2.2.2.1 C.2.2.2.2.2.2.2.1 σ
theorem CX.sub (C : CX g A p s m args meth c cc nL own) (hS : va_S A s.heap H locs) : ∀ q, AX g H.size q → A q := by
  intro q h
  rcases h with ⟨k, hk, rfl⟩ | h
  · exact C.2.2.2.2.2.2.2.1 k hk
  · exact C.2.2.2.2.2.2.2.2.1 q (Nat.le_trans hS.1 h)
/-- the start of a method of this side -/
theorem CX.of {y : MethodName} {ws : List Cond} {rm : Room} {maxL : Nat} {ret : Option FieldType} {av : List Value} {s₁ : State} (B : BodyLoose p l y (headSpec ws rm) cc maxL ret e s m args below meth c s₁) (hml : c.maxLocals = maxL) (hw : ∀ w ∈ tb, w ∈ ws) (hy : y.cls = own) (hv : PcX g av σ s.heap.size args s) : CX g (AX g s.heap.size) p s m args meth c cc maxL own := by
  obtain ⟨-, -, -, hK, hI, hE⟩ := hv
  have hts := atoms_spec (ws := ws) B.pre
  exact ⟨B.exec, B.bytes, hml, hy ▸ findClass_of_methodNamed B.named, fun w h => hts w (hw w h), hK, hI, fun k hk => Or.inl ⟨k, hk, rfl⟩, fun q h => Or.inr h, B.notSynchronized, hE⟩
/-- what a callee of this side finds -/
theorem CX.pre (C : CX g A p s m args meth c cc nL own) (hP : va_P g.1 vwCl (wX g σ) H) (hS : va_S A s.heap H locs) {av : List Value} {U : State} (hU : U.heap = H) (hW : s.WarmedH U.vm) : PcX g av σ H.size av.toArray U := by
  obtain ⟨c1, c2, c3, c4, c5, c6, c7, c8, c9, c10, c11⟩ := id C
  exact ⟨rfl, by rw [hU], by rw [hU]; exact hP, va_K.moved hW.alike c6, c7, c11.pass hS hU hW (C.sub hS)⟩
theorem iaX (C : CX g A p s m args meth c cc nL own) (hP : va_P g.1 vwCl (wX g σ) H) (q : Nat) {n k : Nat} {i : Int32} (ha : (wX g σ)[q]? = some (g.2.2 k, .inl (g.2.1 0, n, .inl (σ k)))) (hin : vp_in i n) (hd : decode cc pc = .ok (.iaload, 1))
    (kk : W p l e R s m args below meth c H locs cells slots Q (F0 m (pc + 1) ls (.int (σ k i.toNatClampNeg) :: rest))) : W p l e R s m args below meth c H locs cells slots Q (F0 m pc ls (.int i :: .ref (g.2.2 k) :: rest)) :=
  va_iald C.1 C.2.1 C.2.2.2.2.2.1 hP q 0 ha rfl hin hd kk
theorem zaX (C : CX g A p s m args meth c cc nL own) (hP : va_P g.1 vwCl (wX g σ) H) (q : Nat) {n k : Nat} {i : Int32} (ha : (wX g σ)[q]? = some (g.2.2 k, .inl (g.2.1 1, n, .inl (σ k)))) (hin : vp_in i n) (hd : decode cc pc = .ok (.baload, 1))
    (kk : W p l e R s m args below meth c H locs cells slots Q (F0 m (pc + 1) ls (.int (σ k i.toNatClampNeg) :: rest))) : W p l e R s m args below meth c H locs cells slots Q (F0 m pc ls (.int i :: .ref (g.2.2 k) :: rest)) :=
  va_zald C.1 C.2.1 C.2.2.2.2.2.1 hP q 1 ha rfl hin hd kk
theorem isX (C : CX g A p s m args meth c cc nL own) (hP : va_P g.1 vwCl (wX g σ) H) (hS : va_S A s.heap H locs) (q : Nat) {n k : Nat} {i x : Int32} (ha : (wX g σ)[q]? = some (g.2.2 k, .inl (g.2.1 0, n, .inl (σ k)))) (hin : vp_in i n) (hd : decode cc pc = .ok (.iastore, 1))
    (he : (wX g σ).set q (g.2.2 k, .inl (g.2.1 0, n, .inl (upd (σ k) i.toNatClampNeg x))) = wX g (pt σ k i.toNatClampNeg x))
    (kk : ∀ (H1 : Heap) (locs1 : List Loc), va_P g.1 vwCl (wX g (pt σ k i.toNatClampNeg x)) H1 → va_S A s.heap H1 locs1 → W p l e R s m args below meth c H1 locs1 cells slots Q (F0 m (pc + 1) ls rest)) : W p l e R s m args below meth c H locs cells slots Q (F0 m pc ls (.int x :: .int i :: .ref (g.2.2 k) :: rest)) :=
  va_iast C.1 C.2.1 C.2.2.2.2.2.1 hP C.D hS q 0 ha rfl hin hd (fun H1 locs1 h1 _ h3 => kk H1 locs1 (he ▸ h1) h3)
theorem zsX (C : CX g A p s m args meth c cc nL own) (hP : va_P g.1 vwCl (wX g σ) H) (hS : va_S A s.heap H locs) (q : Nat) {n k : Nat} {i x : Int32} (ha : (wX g σ)[q]? = some (g.2.2 k, .inl (g.2.1 1, n, .inl (σ k)))) (hx : vp_nar .boolean x = x) (hin : vp_in i n) (hd : decode cc pc = .ok (.bastore, 1))
    (he : (wX g σ).set q (g.2.2 k, .inl (g.2.1 1, n, .inl (upd (σ k) i.toNatClampNeg x))) = wX g (pt σ k i.toNatClampNeg x))
    (kk : ∀ (H1 : Heap) (locs1 : List Loc), va_P g.1 vwCl (wX g (pt σ k i.toNatClampNeg x)) H1 → va_S A s.heap H1 locs1 → W p l e R s m args below meth c H1 locs1 cells slots Q (F0 m (pc + 1) ls rest)) : W p l e R s m args below meth c H locs cells slots Q (F0 m pc ls (.int x :: .int i :: .ref (g.2.2 k) :: rest)) :=
  va_zast C.1 C.2.1 C.2.2.2.2.2.1 hP C.D hS q 1 ha rfl hin hd (fun H1 locs1 h1 _ h3 => kk H1 locs1 (he ▸ (by rw [hx] at h1; exact h1)) h3)
theorem alX (C : CX g A p s m args meth c cc nL own) (hP : va_P g.1 vwCl (wX g σ) H) (q : Nat) {n k : Nat} {v : Int32} (ha : (wX g σ)[q]? = some (g.2.2 k, .inl (g.2.1 0, n, .inl (σ k)))) (hv : Int32.ofNat n = v) (hd : decode cc pc = .ok (.arraylength, 1))
    (kk : W p l e R s m args below meth c H locs cells slots Q (F0 m (pc + 1) ls (.int v :: rest))) : W p l e R s m args below meth c H locs cells slots Q (F0 m pc ls (.ref (g.2.2 k) :: rest)) :=
  va_alen C.1 C.2.1 C.2.2.2.2.2.1 hP q 0 ha rfl hv hd kk
/-- behind a call of this side: the world, the frame -/
theorem CX.back (C : CX g A p s m args meth c cc nL own) {t : State} {H1 : Heap} {u : St} (ht : t.heap = H1) (hB : BX g u t) : va_P g.1 vwCl (wX g u) H1 := by rw [← ht]; exact hB.1
end WX

theorem fst_M (g : Gx) (h : Int64) (σ : St) : (wM g h σ).map Prod.fst = (List.range 10).map (fun k => g.2.2 (31 + k)) := by simp [wM, List.range, List.range.loop]
theorem at_M {g : Gx} {h : Int64} {σ : St} {i : Nat} {q : Nat × va_E} (e : (wM g h σ)[i]? = some q) : i < 10 ∧ q.1 = g.2.2 (31 + i) := by
  have h1 : ((wM g h σ).map Prod.fst)[i]? = some q.1 := by rw [List.getElem?_map, e]; rfl
  rw [fst_M, List.getElem?_map] at h1
  by_cases hi : i < 10
  · rw [List.getElem?_range hi] at h1
    exact ⟨hi, (Option.some.inj h1).symm⟩
  · rw [List.getElem?_eq_none (by rw [List.length_range]; omega)] at h1
    cases h1
/-- which cells a method of this side may change -/
def AM (g : Gx) (sz : Nat) : Nat → Prop := fun q => (∃ k, k < 10 ∧ q = g.2.2 (31 + k)) ∨ sz ≤ q
theorem vD_M {g : Gx} {A : Nat → Prop} (hi : Inj g) (hA : ∀ k, k < 10 → A (g.2.2 (31 + k))) (h : Int64) (σ : St) : va_D A (wM g h σ) := by
  refine ⟨fun i j p q h1 h2 e => ?_, fun k q h1 => ?_⟩
  · obtain ⟨a1, a2⟩ := at_M h1
    obtain ⟨b1, b2⟩ := at_M h2
    rw [a2, b2] at e
    have := hi (31 + i) (31 + j) (by omega) (by omega) e
    omega
  · obtain ⟨a1, a2⟩ := at_M h1
    rw [a2]; exact hA k a1
def CM (g : Gx) (A : Nat → Prop) (p : Program) (s : State) (m : MethodId) (args : Array Value) (meth : Method) (c : Code) (cc : ByteArray) (nL : Nat) (own : String) : Prop :=
  p.tables.exec = Jvm.exec ∧ c.code = cc ∧ c.maxLocals = nL ∧ s.vm.findClass own = some m.cls ∧ (∀ w ∈ tb, w.before args s = true) ∧ va_K g.1 vwCl (ty3 g) s ∧ Inj g ∧ (∀ k, k < 10 → A (g.2.2 (31 + k))) ∧ (∀ q, s.heap.size ≤ q → A q) ∧ meth.locks = false
def PcM (g : Gx) (h : Int64) (av : List Value) (σ : St) (sz : Nat) : Array Value → State → Prop := va_Pc av (fun U => U.heap.size = sz ∧ va_P g.1 vwCl (wM g h σ) U.heap ∧ va_K g.1 vwCl (ty3 g) U ∧ Inj g)
def BM (g : Gx) (h : Int64) (u : St) (t : State) : Prop := va_P g.1 vwCl (wM g h u) t.heap ∧ va_K g.1 vwCl (ty3 g) t
def QiM (g : Gx) (h : Int64) (A : Nat → Prop) (r : Int32) (u : St) : Array Value → State → Outcome → State → Prop := va_Qi (fun (r' : Int32) (u' : St) => r' = r ∧ u' = u) (BM g h) A
def QlM (g : Gx) (h : Int64) (A : Nat → Prop) (r : Int64) (u : St) : Array Value → State → Outcome → State → Prop := va_Ql (fun (r' : Int64) (u' : St) => r' = r ∧ u' = u) (BM g h) A
def QvM (g : Gx) (h : Int64) (A : Nat → Prop) (u : St) : Array Value → State → Outcome → State → Prop := va_Qv (fun (u' : St) => u' = u) (BM g h) A
def QrM (g : Gx) (h : Int64) (A : Nat → Prop) (k : Nat) (u : St) : Array Value → State → Outcome → State → Prop := va_Qr (fun (u' : St) => u' = u) (fun u' a t => a = g.2.2 k ∧ BM g h u' t) A
theorem blind_M {g : Gx} {h : Int64} {av : List Value} {σ : St} {sz : Nat} : FrameBlind (PcM g h av σ sz) := by
  intro a U f mk q
  obtain ⟨q0, q1, qP, qK, qI⟩ := q
  exact ⟨q0, q1, qP, va_K.moved (u := U) (U := U.calling f mk a) (Vm.Alike.refl U.vm) qK, qI⟩
section WM
variable {p : Program} {l : Launch} {e : Env} {R : Room} {s : State} {m : MethodId} {args : Array Value} {below : List Frame} {meth : Method} {c : Code} {H : Heap} {locs : List Loc} {cells slots : Nat} {Q : State → Prop} {cc : ByteArray} {nL pc : Nat} {own : String} {ls : Array Slot} {rest : List Value} {g : Gx} {A : Nat → Prop} {σ : St} {h : Int64}
theorem CM.D (C : CM g A p s m args meth c cc nL own) : va_D A (wM g h σ) := vD_M C.2.2.2.2.2.2.1 C.2.2.2.2.2.2.2.1 h σ
theorem CM.sub (C : CM g A p s m args meth c cc nL own) (hS : va_S A s.heap H locs) : ∀ q, AM g H.size q → A q := by
  intro q h
  rcases h with ⟨k, hk, rfl⟩ | h
  · exact C.2.2.2.2.2.2.2.1 k hk
  · exact C.2.2.2.2.2.2.2.2.1 q (Nat.le_trans hS.1 h)
/-- the start of a method of this side -/
theorem CM.of {y : MethodName} {ws : List Cond} {rm : Room} {maxL : Nat} {ret : Option FieldType} {av : List Value} {s₁ : State} (B : BodyLoose p l y (headSpec ws rm) cc maxL ret e s m args below meth c s₁) (hml : c.maxLocals = maxL) (hw : ∀ w ∈ tb, w ∈ ws) (hy : y.cls = own) (hv : PcM g h av σ s.heap.size args s) : CM g (AM g s.heap.size) p s m args meth c cc maxL own := by
  obtain ⟨-, -, -, hK, hI⟩ := hv
  have hts := atoms_spec (ws := ws) B.pre
  exact ⟨B.exec, B.bytes, hml, hy ▸ findClass_of_methodNamed B.named, fun w h => hts w (hw w h), hK, hI, fun k hk => Or.inl ⟨k, hk, rfl⟩, fun q h => Or.inr h, B.notSynchronized⟩
/-- what a callee of this side finds -/
theorem CM.pre (C : CM g A p s m args meth c cc nL own) (hP : va_P g.1 vwCl (wM g h σ) H) (hS : va_S A s.heap H locs) {av : List Value} {U : State} (hU : U.heap = H) (hW : s.WarmedH U.vm) : PcM g h av σ H.size av.toArray U := by
  obtain ⟨c1, c2, c3, c4, c5, c6, c7, c8, c9, c10⟩ := id C
  exact ⟨rfl, by rw [hU], by rw [hU]; exact hP, va_K.moved hW.alike c6, c7⟩
theorem iaM (C : CM g A p s m args meth c cc nL own) (hP : va_P g.1 vwCl (wM g h σ) H) (q : Nat) {n k : Nat} {i : Int32} (ha : (wM g h σ)[q]? = some (g.2.2 k, .inl (g.2.1 0, n, .inl (σ k)))) (hin : vp_in i n) (hd : decode cc pc = .ok (.iaload, 1))
    (kk : W p l e R s m args below meth c H locs cells slots Q (F0 m (pc + 1) ls (.int (σ k i.toNatClampNeg) :: rest))) : W p l e R s m args below meth c H locs cells slots Q (F0 m pc ls (.int i :: .ref (g.2.2 k) :: rest)) :=
  va_iald C.1 C.2.1 C.2.2.2.2.2.1 hP q 0 ha rfl hin hd kk
theorem zaM (C : CM g A p s m args meth c cc nL own) (hP : va_P g.1 vwCl (wM g h σ) H) (q : Nat) {n k : Nat} {i : Int32} (ha : (wM g h σ)[q]? = some (g.2.2 k, .inl (g.2.1 1, n, .inl (σ k)))) (hin : vp_in i n) (hd : decode cc pc = .ok (.baload, 1))
    (kk : W p l e R s m args below meth c H locs cells slots Q (F0 m (pc + 1) ls (.int (σ k i.toNatClampNeg) :: rest))) : W p l e R s m args below meth c H locs cells slots Q (F0 m pc ls (.int i :: .ref (g.2.2 k) :: rest)) :=
  va_zald C.1 C.2.1 C.2.2.2.2.2.1 hP q 1 ha rfl hin hd kk
theorem isM (C : CM g A p s m args meth c cc nL own) (hP : va_P g.1 vwCl (wM g h σ) H) (hS : va_S A s.heap H locs) (q : Nat) {n k : Nat} {i x : Int32} (ha : (wM g h σ)[q]? = some (g.2.2 k, .inl (g.2.1 0, n, .inl (σ k)))) (hin : vp_in i n) (hd : decode cc pc = .ok (.iastore, 1))
    (he : (wM g h σ).set q (g.2.2 k, .inl (g.2.1 0, n, .inl (upd (σ k) i.toNatClampNeg x))) = wM g h (pt σ k i.toNatClampNeg x))
    (kk : ∀ (H1 : Heap) (locs1 : List Loc), va_P g.1 vwCl (wM g h (pt σ k i.toNatClampNeg x)) H1 → va_S A s.heap H1 locs1 → W p l e R s m args below meth c H1 locs1 cells slots Q (F0 m (pc + 1) ls rest)) : W p l e R s m args below meth c H locs cells slots Q (F0 m pc ls (.int x :: .int i :: .ref (g.2.2 k) :: rest)) :=
  va_iast C.1 C.2.1 C.2.2.2.2.2.1 hP C.D hS q 0 ha rfl hin hd (fun H1 locs1 h1 _ h3 => kk H1 locs1 (he ▸ h1) h3)
theorem zsM (C : CM g A p s m args meth c cc nL own) (hP : va_P g.1 vwCl (wM g h σ) H) (hS : va_S A s.heap H locs) (q : Nat) {n k : Nat} {i x : Int32} (ha : (wM g h σ)[q]? = some (g.2.2 k, .inl (g.2.1 1, n, .inl (σ k)))) (hx : vp_nar .boolean x = x) (hin : vp_in i n) (hd : decode cc pc = .ok (.bastore, 1))
    (he : (wM g h σ).set q (g.2.2 k, .inl (g.2.1 1, n, .inl (upd (σ k) i.toNatClampNeg x))) = wM g h (pt σ k i.toNatClampNeg x))
    (kk : ∀ (H1 : Heap) (locs1 : List Loc), va_P g.1 vwCl (wM g h (pt σ k i.toNatClampNeg x)) H1 → va_S A s.heap H1 locs1 → W p l e R s m args below meth c H1 locs1 cells slots Q (F0 m (pc + 1) ls rest)) : W p l e R s m args below meth c H locs cells slots Q (F0 m pc ls (.int x :: .int i :: .ref (g.2.2 k) :: rest)) :=
  va_zast C.1 C.2.1 C.2.2.2.2.2.1 hP C.D hS q 1 ha rfl hin hd (fun H1 locs1 h1 _ h3 => kk H1 locs1 (he ▸ (by rw [hx] at h1; exact h1)) h3)
theorem alM (C : CM g A p s m args meth c cc nL own) (hP : va_P g.1 vwCl (wM g h σ) H) (q : Nat) {n k : Nat} {v : Int32} (ha : (wM g h σ)[q]? = some (g.2.2 k, .inl (g.2.1 0, n, .inl (σ k)))) (hv : Int32.ofNat n = v) (hd : decode cc pc = .ok (.arraylength, 1))
    (kk : W p l e R s m args below meth c H locs cells slots Q (F0 m (pc + 1) ls (.int v :: rest))) : W p l e R s m args below meth c H locs cells slots Q (F0 m pc ls (.ref (g.2.2 k) :: rest)) :=
  va_alen C.1 C.2.1 C.2.2.2.2.2.1 hP q 0 ha rfl hv hd kk
/-- behind a call of this side: the world, the frame -/
theorem CM.back (C : CM g A p s m args meth c cc nL own) {t : State} {H1 : Heap} {u : St} (ht : t.heap = H1) (hB : BM g h u t) : va_P g.1 vwCl (wM g h u) H1 := by rw [← ht]; exact hB.1
end WM
