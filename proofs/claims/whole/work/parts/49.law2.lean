/-! THE CLAIM OUT OF ONE WALK OF THE LAW'S BODY. Your part is whole_start (and what it stands on); all else here is the same for every law, but numbers. -/
def R_law : String := "JudgedRowsLaw"
def lw_P (b : Addr) (xs : List Int32) (args : Array Value) (s : State) : Prop := args = #[.ref b] ∧ s.IntsAt b xs ∧ xs.length ≤ 2560 ∧ (Jvm.Cond.and given_1 narrow_1).before args s = true
def lw_Q (_ : Array Value) (s : State) (o : Outcome) (t : State) : Prop := o = .returned (some (.int 1)) ∧ Framed s o t [] 41 10789
def lw_Z (below : List Frame) (a : Array Value) (s : State) : State → Prop := fun t => ∃ o, t.status = .running ∧ Ended t below o ∧ lw_Q a s o t
/-- the law's own end, with 1 on the stack, nothing written that was there before, its room as the claim has it -/
theorem lw_ret {p : Program} {l : Launch} {e : Env} {s : State} {m : MethodId} {below : List Frame} {meth : Method} {c : Code} {b : Nat} (hx : p.tables.exec = Jvm.exec) (hb : c.code = code) (hr : meth.sig.returnType = ret) (hlocks : meth.locks = false) {pc : Nat} {H : Heap} {ls : Array Slot} (hdg : decode code pc = .ok (.ireturn, 1)) : W p l e room_1 s m #[Value.ref b] below meth c H [] 41 10789 (lw_Z below #[Value.ref b] s) (F0 m pc ls [.int 1]) := by
  intro T hT X
  obtain ⟨fs, hret, hrun, hended, hW, hframe⟩ := X.leave (v := some (.int 1)) (hlocks := hlocks) (fun h => by rw [hr] at h; cases h)
  have hmeth' : T.vm.method? m = some meth := X.method'
  refine ⟨T.setFrames fs, ?_, .returned (some (.int 1)), hrun, hended, rfl, ⟨_, rfl⟩, hW, hframe⟩
  jvm_step X.here [X.here.top, hx, hb, hdg, hmeth', hr, ret, narrow_b1]
  (try refine ⟨rfl, ?_⟩); (try refine ⟨rfl, ?_⟩)
  first | (intro acts; rw [hret _ acts rfl rfl rfl]) | rw [hret _ _ rfl rfl rfl]
  exact Steps.refl _
/-- what holds at the law's entry: the machine, the code, the tables' words (any of lw_tbl by 'hts w (by decide +kernel)'), the script of L ints xs at the cell b, what the Statement gives of the start (any of its parts by flat_of_before) -/
def lw_At (p : Program) (s : State) (m : MethodId) (meth : Method) (c : Code) (b L : Nat) (xs : Nat → Int32) : Prop :=
  p.tables.exec = Jvm.exec ∧ c.code = code ∧ meth.sig.returnType = ret ∧ c.maxLocals = 4 ∧ s.vm.findClass R_law = some m.cls ∧ (∀ w ∈ lw_tbl, w.before #[Value.ref b] s = true) ∧ va_X b L xs s s.heap ∧ b < s.heap.size ∧ meth.locks = false ∧ (Jvm.Cond.and given_1 narrow_1).before #[Value.ref b] s = true

theorem law_step {p : Program} {l : Launch} {e : Env} {s : State} {m : MethodId} {below : List Frame} {meth : Method} {c : Code} {g : Gx} {b L : Nat} {xs : Nat → Int32} {N : Nat} (C : CX g (fun q : Nat => s.heap.size ≤ q) p s m #[Value.ref b] meth c cL_law 4 RL) (C2 : CM g (fun q : Nat => s.heap.size ≤ q) p s m #[Value.ref b] meth c cL_law 4 RL) (hr : meth.sig.returnType = ret) (hX : va_X b L xs s s.heap) (hbl : b < s.heap.size) (hL : L ≤ 2560) (hN : 5000 ≤ N) {i n : Nat} {σ μ : St} {h : Int64} {H : Heap} {locs : List Loc} {ls : Array Slot} (hi3 : i ≤ 3000) (hn : n < 1000000) (hR : RelE n σ μ) (hl : lv_has ls 4 [(3, .int (nI i)), (2, .ref (g.2.2 31)), (1, .ref (g.2.2 0)), (0, .ref b)]) (hP : va_P g.1 vwCl (wX g σ) H) (hPM : va_P g.1 vwCl (wM g h μ) H) (hS : va_S (fun q : Nat => s.heap.size ≤ q) s.heap H locs) (kk : i + 5 ≤ L → ∀ (σ2 μ2 : St) (h2 : Int64) (H1 : Heap) (locs1 : List Loc) (ls1 : Array Slot), RelE (n + 1) σ2 μ2 → lv_has ls1 4 [(3, .int (nI (i + 5))), (2, .ref (g.2.2 31)), (1, .ref (g.2.2 0)), (0, .ref b)] → va_P g.1 vwCl (wX g σ2) H1 → va_P g.1 vwCl (wM g h2 μ2) H1 → va_S (fun q : Nat => s.heap.size ≤ q) s.heap H1 locs1 → W p l e room_1 s m #[Value.ref b] below meth c H1 locs1 41 10789 (lw_Z below #[Value.ref b] s) (F0 m 18 ls1 [])) : W p l e room_1 s m #[Value.ref b] below meth c H locs 41 10789 (lw_Z below #[Value.ref b] s) (F0 m 18 ls []) := by
  refine lv_iload_n C.1 C.2.1 dL_law_18 rfl (lv_at hl 0 rfl) ?_
  refine lv_aload_n C.1 C.2.1 dL_law_19 rfl (lv_at hl 3 rfl) ?_
  refine va_slen C.1 C.2.1 hX hbl (Nat.not_le.mpr hbl) hS dL_law_20 ?_
  refine lv_iconst (v := 5) C.1 C.2.1 dL_law_21 (by decide) ?_
  refine lv_isub C.1 C.2.1 dL_law_22 ?_
  have e5 : (Int32.ofNat L - 5).toInt = (L : Int) - 5 := pk_sub_toInt (a := L) (b := 5) (by omega) (by omega)
  refine lv_icmp_gt (tgt := 847) C.1 C.2.1 dL_law_23 (by decide) (fun c1 => ?_) (fun c1 => ?_)
  · refine lv_iconst (v := 1) C.1 C.2.1 dL_law_847 (by decide) ?_
    refine va_forget hS.2.2 ?_
    exact lw_ret C.1 C.2.1 hr C.2.2.2.2.2.2.2.2.2.1 dL_law_848
  · have hi : i + 5 ≤ L := by
      have h1 : ¬ (Int32.ofNat L - 5).toInt < (nI i).toInt := fun q => c1 (Int32.lt_iff_toInt_lt.mpr q)
      rw [e5, nI_toInt (by omega)] at h1
      omega
    refine lv_aload_n C.1 C.2.1 dL_law_26 rfl (lv_at hl 3 rfl) ?_
    refine lv_iload_n C.1 C.2.1 dL_law_27 rfl (lv_at hl 0 rfl) ?_
    refine va_sld C.1 C.2.1 hX hbl (Nat.not_le.mpr hbl) hS (vp_in_nI (show i < L by omega) (by omega)) dL_law_28 ?_
    refine lv_bipush (v := 31) C.1 C.2.1 dL_law_29 (by decide) ?_
    refine lv_iand C.1 C.2.1 dL_law_31 ?_
    refine lv_topi (fun v _ => ?_)
    have fin : ∀ (n2 : Nat) (σ2 μ2 : St) (h2 : Int64) (H1 : Heap) (locs1 : List Loc), n2 = n + 1 → RelE n2 σ2 μ2 → va_P g.1 vwCl (wX g σ2) H1 → va_P g.1 vwCl (wM g h2 μ2) H1 → va_S (fun q : Nat => s.heap.size ≤ q) s.heap H1 locs1 → W p l e room_1 s m #[Value.ref b] below meth c H1 locs1 41 10789 (lw_Z below #[Value.ref b] s) (F0 m 841 ls []) := by
      intro n2 σ2 μ2 h2 H1 locs1 en hR2 hP hPM hS
      subst en
      refine lv_iinc (v := nI (i + 5)) (lv' := [(3, .int (nI (i + 5))), (2, .ref (g.2.2 31)), (1, .ref (g.2.2 0)), (0, .ref b)]) C.1 C.2.1 dL_law_841 hl (k := 0) rfl (by rw [← nI_add]; rfl) (by decide) rfl (fun ls1 hl => ?_)
      refine lv_goto (tgt := 18) C.1 C.2.1 dL_law_844 (by decide) ?_
      exact kk hi σ2 μ2 h2 H1 locs1 ls1 hR2 hl hP hPM hS
    have out : (v.toInt < 0 ∨ 25 < v.toInt) → W p l e room_1 s m #[Value.ref b] below meth c H locs 41 10789 (lw_Z below #[Value.ref b] s) (F0 m 32 ls [.int v]) := fun q => by
      refine lv_tableOut (tgt := 841) C.1 C.2.1 dL_law_32 q (by decide) ?_
      exact fin (n + 1) σ μ h H locs rfl hR.up hP hPM hS
    rcases pk_ix v (n := 26) (by omega) with q | q | ⟨k, hk, rfl⟩
    · have q2 := Int32.lt_iff_toInt_lt.mp q
      rw [Int32.toInt_zero] at q2
      exact out (Or.inl q2)
    · have q2 := Int32.le_iff_toInt_le.mp q
      rw [nI_toInt (by omega)] at q2
      exact out (Or.inr (by omega))
    · rcases (show k = 0 ∨ k = 1 ∨ k = 2 ∨ k = 3 ∨ k = 4 ∨ k = 5 ∨ k = 6 ∨ k = 7 ∨ k = 8 ∨ k = 9 ∨ k = 10 ∨ k = 11 ∨ k = 12 ∨ k = 13 ∨ k = 14 ∨ k = 15 ∨ k = 16 ∨ k = 17 ∨ k = 18 ∨ k = 19 ∨ k = 20 ∨ k = 21 ∨ k = 22 ∨ k = 23 ∨ k = 24 ∨ k = 25 by omega) with rfl | rfl | rfl | rfl | rfl | rfl | rfl | rfl | rfl | rfl | rfl | rfl | rfl | rfl | rfl | rfl | rfl | rfl | rfl | rfl | rfl | rfl | rfl | rfl | rfl | rfl
      · refine lv_tableIn (off := 120) (tgt := 152) C.1 C.2.1 dL_law_32 (by decide) (by decide) (by decide) (by decide) ?_
        exact lk_letter C C2 hX hbl hi hL hN hn hR hl hP hPM hS (fun σ2 μ2 h2 H1 locs1 hR2 hP hPM hS => fin (n + 1) σ2 μ2 h2 H1 locs1 rfl hR2 hP hPM hS)
      · refine lv_tableIn (off := 143) (tgt := 175) C.1 C.2.1 dL_law_32 (by decide) (by decide) (by decide) (by decide) ?_
        exact lk_blank C C2 hX hbl hi hL hN hn hR hl hP hPM hS (fun σ2 μ2 h2 H1 locs1 hR2 hP hPM hS => fin (n + 1) σ2 μ2 h2 H1 locs1 rfl hR2 hP hPM hS)
      · refine lv_tableIn (off := 156) (tgt := 188) C.1 C.2.1 dL_law_32 (by decide) (by decide) (by decide) (by decide) ?_
        exact lk_fault C C2 hX hbl hi hL hN hn hR hl hP hPM hS (fun σ2 μ2 h2 H1 locs1 hR2 hP hPM hS => fin (n + 1) σ2 μ2 h2 H1 locs1 rfl hR2 hP hPM hS)
      · refine lv_tableIn (off := 169) (tgt := 201) C.1 C.2.1 dL_law_32 (by decide) (by decide) (by decide) (by decide) ?_
        exact lk_game C C2 hX hbl hi hL hN hn hR hl hP hPM hS (fun σ2 μ2 h2 H1 locs1 hR2 hP hPM hS => fin (n + 1) σ2 μ2 h2 H1 locs1 rfl hR2 hP hPM hS)
      · refine lv_tableIn (off := 182) (tgt := 214) C.1 C.2.1 dL_law_32 (by decide) (by decide) (by decide) (by decide) ?_
        exact lk_judge C C2 hX hbl hi hL hN hn hR hl hP hPM hS (fun σ2 μ2 h2 H1 locs1 hR2 hP hPM hS => fin (n + 1) σ2 μ2 h2 H1 locs1 rfl hR2 hP hPM hS)
      · refine lv_tableIn (off := 215) (tgt := 247) C.1 C.2.1 dL_law_32 (by decide) (by decide) (by decide) (by decide) ?_
        exact lk_as C C2 hX hbl hi hL hN hn hR hl hP hPM hS (fun σ2 μ2 h2 H1 locs1 hR2 hP hPM hS => fin (n + 1) σ2 μ2 h2 H1 locs1 rfl hR2 hP hPM hS)
      · refine lv_tableIn (off := 248) (tgt := 280) C.1 C.2.1 dL_law_32 (by decide) (by decide) (by decide) (by decide) ?_
        exact lk_row C C2 hX hbl hi hL hN hn hR hl hP hPM hS (fun σ2 μ2 h2 H1 locs1 hR2 hP hPM hS => fin (n + 1) σ2 μ2 h2 H1 locs1 rfl hR2 hP hPM hS)
      · refine lv_tableIn (off := 281) (tgt := 313) C.1 C.2.1 dL_law_32 (by decide) (by decide) (by decide) (by decide) ?_
        exact lk_tells C C2 hX hbl hi hL hN hn hR hl hP hPM hS (fun σ2 μ2 h2 H1 locs1 hR2 hP hPM hS => fin (n + 1) σ2 μ2 h2 H1 locs1 rfl hR2 hP hPM hS)
      · refine lv_tableIn (off := 324) (tgt := 356) C.1 C.2.1 dL_law_32 (by decide) (by decide) (by decide) (by decide) ?_
        exact lk_seen C C2 hX hbl hi hL hN hn hR hl hP hPM hS (fun σ2 μ2 h2 H1 locs1 hR2 hP hPM hS => fin (n + 1) σ2 μ2 h2 H1 locs1 rfl hR2 hP hPM hS)
      · refine lv_tableIn (off := 357) (tgt := 389) C.1 C.2.1 dL_law_32 (by decide) (by decide) (by decide) (by decide) ?_
        exact lk_show C C2 hX hbl hi hL hN hn hR hl hP hPM hS (fun σ2 μ2 h2 H1 locs1 hR2 hP hPM hS => fin (n + 1) σ2 μ2 h2 H1 locs1 rfl hR2 hP hPM hS)
      · refine lv_tableIn (off := 390) (tgt := 422) C.1 C.2.1 dL_law_32 (by decide) (by decide) (by decide) (by decide) ?_
        exact lk_note C C2 hX hbl hi hL hN hn hR hl hP hPM hS (fun σ2 μ2 h2 H1 locs1 hR2 hP hPM hS => fin (n + 1) σ2 μ2 h2 H1 locs1 rfl hR2 hP hPM hS)
      · refine lv_tableIn (off := 433) (tgt := 465) C.1 C.2.1 dL_law_32 (by decide) (by decide) (by decide) (by decide) ?_
        exact lk_strike C C2 hX hbl hi hL hN hn hR hl hP hPM hS (fun σ2 μ2 h2 H1 locs1 hR2 hP hPM hS => fin (n + 1) σ2 μ2 h2 H1 locs1 rfl hR2 hP hPM hS)
      · refine lv_tableIn (off := 446) (tgt := 478) C.1 C.2.1 dL_law_32 (by decide) (by decide) (by decide) (by decide) ?_
        exact lk_forget C C2 hX hbl hi hL hN hn hR hl hP hPM hS (fun σ2 μ2 h2 H1 locs1 hR2 hP hPM hS => fin (n + 1) σ2 μ2 h2 H1 locs1 rfl hR2 hP hPM hS)
      · refine lv_tableIn (off := 459) (tgt := 491) C.1 C.2.1 dL_law_32 (by decide) (by decide) (by decide) (by decide) ?_
        exact lk_hide C C2 hX hbl hi hL hN hn hR hl hP hPM hS (fun σ2 μ2 h2 H1 locs1 hR2 hP hPM hS => fin (n + 1) σ2 μ2 h2 H1 locs1 rfl hR2 hP hPM hS)
      · refine lv_tableIn (off := 482) (tgt := 514) C.1 C.2.1 dL_law_32 (by decide) (by decide) (by decide) (by decide) ?_
        exact lk_swap C C2 hX hbl hi hL hN hn hR hl hP hPM hS (fun σ2 μ2 h2 H1 locs1 hR2 hP hPM hS => fin (n + 1) σ2 μ2 h2 H1 locs1 rfl hR2 hP hPM hS)
      · refine lv_tableIn (off := 515) (tgt := 547) C.1 C.2.1 dL_law_32 (by decide) (by decide) (by decide) (by decide) ?_
        exact lk_left C C2 hX hbl hi hL hN hn hR hl hP hPM hS (fun σ2 μ2 h2 H1 locs1 hR2 hP hPM hS => fin (n + 1) σ2 μ2 h2 H1 locs1 rfl hR2 hP hPM hS)
      · refine lv_tableIn (off := 528) (tgt := 560) C.1 C.2.1 dL_law_32 (by decide) (by decide) (by decide) (by decide) ?_
        exact lk_fits C C2 hX hbl hi hL hN hn hR hl hP hPM hS (fun σ2 μ2 h2 H1 locs1 hR2 hP hPM hS => fin (n + 1) σ2 μ2 h2 H1 locs1 rfl hR2 hP hPM hS)
      · refine lv_tableIn (off := 551) (tgt := 583) C.1 C.2.1 dL_law_32 (by decide) (by decide) (by decide) (by decide) ?_
        exact lk_best C C2 hX hbl hi hL hN hn hR hl hP hPM hS (fun σ2 μ2 h2 H1 locs1 hR2 hP hPM hS => fin (n + 1) σ2 μ2 h2 H1 locs1 rfl hR2 hP hPM hS)
      · refine lv_tableIn (off := 584) (tgt := 616) C.1 C.2.1 dL_law_32 (by decide) (by decide) (by decide) (by decide) ?_
        exact lk_rest C C2 hX hbl hi hL hN hn hR hl hP hPM hS (fun σ2 μ2 h2 H1 locs1 hR2 hP hPM hS => fin (n + 1) σ2 μ2 h2 H1 locs1 rfl hR2 hP hPM hS)
      · refine lv_tableIn (off := 627) (tgt := 659) C.1 C.2.1 dL_law_32 (by decide) (by decide) (by decide) (by decide) ?_
        exact lk_howLong C C2 hX hbl hi hL hN hn hR hl hP hPM hS (fun σ2 μ2 h2 H1 locs1 hR2 hP hPM hS => fin (n + 1) σ2 μ2 h2 H1 locs1 rfl hR2 hP hPM hS)
      · refine lv_tableIn (off := 660) (tgt := 692) C.1 C.2.1 dL_law_32 (by decide) (by decide) (by decide) (by decide) ?_
        exact lk_parts C C2 hX hbl hi hL hN hn hR hl hP hPM hS (fun σ2 μ2 h2 H1 locs1 hR2 hP hPM hS => fin (n + 1) σ2 μ2 h2 H1 locs1 rfl hR2 hP hPM hS)
      · refine lv_tableIn (off := 693) (tgt := 725) C.1 C.2.1 dL_law_32 (by decide) (by decide) (by decide) (by decide) ?_
        exact lk_tries C C2 hX hbl hi hL hN hn hR hl hP hPM hS (fun σ2 μ2 h2 H1 locs1 hR2 hP hPM hS => fin (n + 1) σ2 μ2 h2 H1 locs1 rfl hR2 hP hPM hS)
      · refine lv_tableIn (off := 746) (tgt := 778) C.1 C.2.1 dL_law_32 (by decide) (by decide) (by decide) (by decide) ?_
        exact lk_image C C2 hX hbl hi hL hN hn hR hl hP hPM hS (fun σ2 μ2 h2 H1 locs1 hR2 hP hPM hS => fin (n + 1) σ2 μ2 h2 H1 locs1 rfl hR2 hP hPM hS)
      · refine lv_tableIn (off := 759) (tgt := 791) C.1 C.2.1 dL_law_32 (by decide) (by decide) (by decide) (by decide) ?_
        exact lk_restore C C2 hX hbl hi hL hN hn hR hl hP hPM hS (fun σ2 μ2 h2 H1 locs1 hR2 hP hPM hS => fin (n + 1) σ2 μ2 h2 H1 locs1 rfl hR2 hP hPM hS)
      · refine lv_tableIn (off := 772) (tgt := 804) C.1 C.2.1 dL_law_32 (by decide) (by decide) (by decide) (by decide) ?_
        exact lk_count C C2 hX hbl hi hL hN hn hR hl hP hPM hS (fun σ2 μ2 h2 H1 locs1 hR2 hP hPM hS => fin (n + 1) σ2 μ2 h2 H1 locs1 rfl hR2 hP hPM hS)
      · refine lv_tableIn (off := 795) (tgt := 827) C.1 C.2.1 dL_law_32 (by decide) (by decide) (by decide) (by decide) ?_
        exact lk_digest C C2 hX hbl hi hL hN hn hR hl hP hPM hS (fun σ2 μ2 h2 H1 locs1 hR2 hP hPM hS => fin (n + 1) σ2 μ2 h2 H1 locs1 rfl hR2 hP hPM hS)
theorem law_loop {p : Program} {l : Launch} {e : Env} {s : State} {m : MethodId} {below : List Frame} {meth : Method} {c : Code} {g : Gx} {b L : Nat} {xs : Nat → Int32} {N : Nat} (C : CX g (fun q : Nat => s.heap.size ≤ q) p s m #[Value.ref b] meth c cL_law 4 RL) (C2 : CM g (fun q : Nat => s.heap.size ≤ q) p s m #[Value.ref b] meth c cL_law 4 RL) (hr : meth.sig.returnType = ret) (hX : va_X b L xs s s.heap) (hbl : b < s.heap.size) (hL : L ≤ 2560) (hN : 5000 ≤ N) : ∀ (d i n : Nat) (σ μ : St) (h : Int64) (H : Heap) (locs : List Loc) (ls : Array Slot), L < i + d → i ≤ 3000 → n ≤ i → RelE n σ μ → lv_has ls 4 [(3, .int (nI i)), (2, .ref (g.2.2 31)), (1, .ref (g.2.2 0)), (0, .ref b)] → va_P g.1 vwCl (wX g σ) H → va_P g.1 vwCl (wM g h μ) H → va_S (fun q : Nat => s.heap.size ≤ q) s.heap H locs → W p l e room_1 s m #[Value.ref b] below meth c H locs 41 10789 (lw_Z below #[Value.ref b] s) (F0 m 18 ls []) := by
  intro d
  induction d with
  | zero =>
    intro i n σ μ h H locs ls h1 h2 h3 hR hl hP hPM hS
    exact law_step C C2 hr hX hbl hL hN h2 (by omega) hR hl hP hPM hS (fun q => by omega)
  | succ d ih =>
    intro i n σ μ h H locs ls h1 h2 h3 hR hl hP hPM hS
    exact law_step C C2 hr hX hbl hL hN h2 (by omega) hR hl hP hPM hS (fun q σ2 μ2 h2 H1 locs1 ls1 hR2 hl hP hPM hS => ih (i + 5) (n + 1) σ2 μ2 h2 H1 locs1 ls1 (by omega) (by omega) (by omega) hR2 hl hP hPM hS)
