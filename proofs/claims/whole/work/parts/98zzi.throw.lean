theorem rt_n0 : decode prog_30_method_4_code 0 = .ok (.aload_n 0, 1) := by decide +kernel
theorem rt_n1 : decode prog_30_method_4_code 1 = .ok (.aload_n 1, 1) := by decide +kernel
theorem rt_n2 : decode prog_30_method_4_code 2 = .ok (.invokespecial 13, 3) := by decide +kernel
theorem rt_n5 : decode prog_30_method_4_code 5 = .ok (.return_, 1) := by decide +kernel
section RTT
variable {p : Program} {l : Launch} {e : Env} {R : Room} {s : State} {m₀ : MethodId} {args : Array Value} {below : List Frame} {meth : Method} {c : Code} {T0 : State} {locs : List Loc} {cells slots : Nat}
set_option maxHeartbeats 1000000 in
/-- from the constructor's call with the new object twice and its text on the stack, the throw behind it: the method ends in it; nothing but that object's cell is touched -/
theorem rt_throw (X : Stand p l e R s m₀ args below meth c T0 locs cells slots) (hexec : p.tables.exec = Jvm.exec) (htr : e.platform.stackTraces = false) (hown : s.vm.findClass RX10 = some m₀.cls) (hgd : ∀ w ∈ pg_gd, w.before args s = true)
    {n0 : Nat} {H0 : Heap} (hU : rt_st "UNASSIGNED_STACK" Bundle.steD n0 s H0) (hS : rt_st "SUPPRESSED_SENTINEL" Bundle.listD n0 s H0) (h1 : ∀ q : Nat, q < n0 → s.heap[q]? = H0[q]?) (h2 : ∀ q : Nat, q < n0 → T0.heap[q]? = H0[q]?)
    {a : Addr} {cX : ClassId} {kX : Class} (hfoundX : s.vm.findClass rt_N = some cX) (hkX : s.vm.classes[cX]? = some kX) (hcell : T0.heap[a]? = some (freshCell cX kX)) (hnew : s.heap.size ≤ a) (hn0 : n0 ≤ a)
    {msg : Value} (hmsg : msg.isRef = true) {g : JFrame} (hg : g.method = m₀) (hsize : g.locals.size = c.maxLocals) (hlocked : g.locked = none) (hentered : g.entered = []) {rest : List Value} (hstack : g.stack = msg :: .ref a :: .ref a :: rest)
    (hd6 : decode c.code g.pc = .ok (.invokespecial 265, 3)) (hd9 : decode c.code (g.pc + 3) = .ok (.athrow, 1)) (hout : ∀ x ∈ c.exceptionTable.toList, covers x (g.pc + 3) = false)
    (hRframes : 5 < R.frames) (hRlocals : 2 * g.monitorRoom + ((Value.ref a :: rest).map fun v => v.category).sum + (13 * 3 + 42) ≤ R.locals) (hlocks : meth.locks = false) :
    ∃ (U : State) (ce : Cell), Steps p.tables e below (T0.setTop g) U ∧ U.status = .running ∧ Ended U below (.threw a) ∧ s.WarmedH U.vm ∧ s.sameButNew ({ U with vm := s.vm } : State) locs cells slots ∧
      U.heap[a]? = some ce ∧ ce.cls = cX ∧ ce.vm = .none ∧ (∀ q : Nat, q ≠ a → U.heap[q]? = T0.heap[q]?) := by
  have howns : e.platform.frameOwnsMonitors = true := by rw [X.admits.platform]
  have hfin : e.platform.finalization = false := by rw [X.admits.platform]
  have hpl : e.platform.magicAccessors = ({} : Platform).magicAccessors := by rw [X.admits.platform]
  have gd : ∀ w, w ∈ pg_gd → w.holds args s none s [] = true := fun w hw => hgd w hw
  obtain ⟨T, Z0, L, -, Y⟩ := ThrowableC.of_atoms (args := args) howns hfin hpl (rt_tA hgd (hU.lays h1) (hS.lays h1))
  obtain ⟨Z, M, LZ, LM, hnZ⟩ := Init0T.ofS_atoms (args := args) hpl L Y (rt_tS hgd)
  obtain ⟨P1, L1, hP1m, hP1s⟩ := PassC.ofS_atoms (args := args) (s := s) hpl (X := rt_N) (Y := rt_R) (by decide) (by decide) rt_n0 rt_n1 rt_n2 rt_n5 (rt_p1 hgd)
  obtain ⟨P2, Ps, hlen, L2, hL, hP2m, hlink2, hlink⟩ := Bundle.chainS (args := args) hpl hnZ [rt_E] rt_R (by decide) (fun n hn => by cases List.mem_singleton.mp hn; decide) (rt_p2 hgd)
  have hP12 : P1.sup = P2.m := Option.some.inj (hP1s.symm.trans hP2m)
  have hfound : s.vm.findClass rt_N = some P1.m.cls := findClass_of_methodNamed hP1m
  cases Option.some.inj (hfoundX.symm.trans hfound)
  obtain ⟨c1, kX', hc1, hk, hord, -, -, hn6⟩ := Cond.instantiable_spec (gd (.instantiable rt_N 6) (pg_g (pg_t5 212 rfl) rfl))
  cases Option.some.inj (hc1.symm.trans hfound)
  cases Option.some.inj (hkX.symm.trans hk)
  have hsel0 : selectMethod e.platform s.vm P1.m.cls T.fill0 = .method T.fill0 := by
    obtain ⟨c2, r2, m2, q1, q2, q3, q4, -⟩ := Cond.selects_spec (gd (.selects rt_N Bundle.tFill0 Bundle.tFill0) (pg_g (pg_t5 220 rfl) rfl))
    cases Option.some.inj (q1.symm.trans hfound)
    cases Option.some.inj (q2.symm.trans (State.methodFound?_of_named Y.fill0 (by decide)))
    cases Option.some.inj (q3.symm.trans Y.fill0)
    rw [Launch.admits_selectMethod X.admits]; exact q4
  have hselF : selectMethod e.platform s.vm P1.m.cls T.fill = .method T.fill := by
    obtain ⟨c2, r2, m2, q1, q2, q3, q4, -⟩ := Cond.selects_spec (gd (.selects rt_N Bundle.tFill Bundle.tFill) (pg_g (pg_t5 221 rfl) rfl))
    cases Option.some.inj (q1.symm.trans hfound)
    cases Option.some.inj (q2.symm.trans (State.methodFound?_of_named Y.fill (by decide)))
    cases Option.some.inj (q3.symm.trans Y.fill)
    rw [Launch.admits_selectMethod X.admits]; exact q4
  obtain ⟨cellS0, hcS0, hiss⟩ := Y.statics
  obtain ⟨u0, hu0⟩ := Cond.staticRefV Y.unassigned L.unassignedStatic L.statics hcS0 hiss (show (Cond.isRef (.static Bundle.tN "UNASSIGNED_STACK" Bundle.steD)).holds args s none s [] = true from hU.isRef h1)
  obtain ⟨sen, hsen⟩ := Cond.staticRefV Y.sentinel L.sentinelStatic L.statics hcS0 hiss (show (Cond.isRef (.static Bundle.tN "SUPPRESSED_SENTINEL" Bundle.listD)).holds args s none s [] = true from hS.isRef h1)
  obtain ⟨ci198, i198, fB, hk198, hg198, ha198, hsB, -, hnB, htB, hffB⟩ := Cond.ownField (t := .object "java/lang/Object") Y.found L.cls (by decide +kernel) (gd (.fieldLink Bundle.tN 198 Bundle.tN "backtrace" "Ljava/lang/Object;") (pg_g (pg_t5 232 rfl) rfl)) (gd (.lays Bundle.tN Bundle.tN "backtrace" "Ljava/lang/Object;") (pg_g (pg_t5 231 rfl) rfl)) e.platform hpl
  have haS : T.aS < n0 := by
    obtain ⟨c9, k9, i9, f9, a9, cell9, v9, -, q2, -, q4, -, -, -, -, -, -, -, q12⟩ := hU
    have e9 := Option.some.inj (q2.symm.trans Y.unassigned)
    simp only [Prod.mk.injEq] at e9
    have := L.statics
    rw [← e9.2.1, q4] at this
    cases this
    exact q12
  have hcellS : T0.heap[T.aS]? = some cellS0 := by rw [h2 _ haS, ← h1 _ haS]; exact hcS0
  have hknownS : cellS0.vm ≠ .unknown := by
    intro hu
    rw [show cellS0.vm = .unknown from hu] at hiss
    cases hiss
  have hneS : T.aS ≠ a := Nat.ne_of_lt (Nat.lt_of_lt_of_le haS hn0)
  obtain ⟨iM, hffM⟩ := Y.msg
  obtain ⟨tyC, dC, hdC, hdnC⟩ := Cond.laysAt hfound hk Y.cause (gd (.lays rt_N Bundle.tN "cause" "Ljava/lang/Throwable;") (pg_g (pg_t5 222 rfl) rfl))
  obtain ⟨tyS, dS, hdS, hdnS⟩ := Cond.laysAt hfound hk Y.stack (gd (.lays rt_N Bundle.tN "stackTrace" Bundle.steD) (pg_g (pg_t5 224 rfl) rfl))
  obtain ⟨tyP, dP, hdP, hdnP⟩ := Cond.laysAt hfound hk Y.supp (gd (.lays rt_N Bundle.tN "suppressedExceptions" Bundle.listD) (pg_g (pg_t5 226 rfl) rfl))
  obtain ⟨tyM, dM, hdM, hdnM⟩ := Cond.laysAt hfound hk hffM (gd (.lays rt_N Bundle.tN "detailMessage" "Ljava/lang/String;") (pg_g (pg_t5 228 rfl) rfl))
  obtain ⟨tyB, dB, hdB, hdnB⟩ := Cond.laysAt hfound hk hffB (gd (.lays rt_N Bundle.tN "backtrace" "Ljava/lang/Object;") (pg_g (pg_t5 230 rfl) rfl))
  have bC := Cond.laysApart hdB hdC hdnB hdnC (by rw [hnB, Y.causeName]; decide)
  have bS := Cond.laysApart hdB hdS hdnB hdnS (by rw [hnB, Y.stackName]; decide)
  have bP := Cond.laysApart hdB hdP hdnB hdnP (by rw [hnB, Y.suppName]; decide)
  have hskip : SkipFacts T e.platform s (fun u => u) u0 ((preparedCellV T.toThrowableT (freshCell P1.m.cls kX) a u0 sen).withEntry T0.cur) :=
    ⟨{ ci198 := ci198, i198 := i198, fBack := fB }, ⟨hk198, hg198, ha198, hsB⟩, by
      have := fresh_default (c := P1.m.cls) tyB
      rw [htB] at this
      simpa [preparedCellV, Cell.setSlot, Cell.withEntry, Array.getElem?_setIfInBounds, bC, bS, bP, bC.symm, bS.symm, bP.symm, defaultValue] using this, fun _ _ => rfl⟩
  obtain ⟨tm, methC, cdC, kC, vm₁, hnC, -, -, -, -, -, -, -, hW₁, st1⟩ := Steps.initColdS (tb := p.tables) (e := e) (below := below) (s := s) (U := T0) X.here hexec X.warmed hpl hown (t := Bundle.initS rt_N) rfl rfl (by decide)
    (gd (.methodLink RX10 265 (Bundle.initS rt_N)) (pg_g (pg_t6 11 rfl) rfl)) (hgd (.instanceMethod (Bundle.initS rt_N)) (pg_g (pg_t6 12 rfl) rfl)) (bytes := prog_30_method_4_code) (maxL := 2) (hgd (.code (Bundle.initS rt_N) prog_30_method_4_code 2 none) (pg_g (pg_t6 13 rfl) rfl))
    (f := g) hg (a := a) (msg := msg) (rest := .ref a :: rest) hstack hd6
  cases Option.some.inj (hnC.symm.trans hP1m)
  have X₁ := X.noted hW₁
  obtain ⟨vm₂, X₂, st2⟩ := X₁.ctorMessageOffV hexec (g := { g with stack := .ref a :: rest }) hg hsize T L Z LZ M LM (P1 :: P2 :: Ps)
    (fun P hP => by
      rcases List.mem_cons.mp hP with rfl | hP
      · exact L1
      · rcases List.mem_cons.mp hP with rfl | hP
        · exact L2
        · exact hL P hP) ⟨hP12, hlink2, hlink⟩ (u0 := u0) (sen := sen) (self := a) hmsg (cell := freshCell P1.m.cls kX) (cellS := cellS0)
    hcell (fun _ => by simp) (by simp) rfl rfl hsel0 hselF hcellS hneS hknownS hu0 hsen
    (Takes.of_laid hk hord tyC (by rw [Y.causeType]; rfl)) (Takes.of_laid hk hord tyS (by rw [Y.stackType]; exact fits_refV_array _ u0)) (Takes.of_laid hk hord tyP (by rw [Y.suppType]; exact fits_refV_object _ sen))
    (Takes.of_laid hk hord tyM (by rw [Y.msgType]; exact fits_refV_object _ ⟨msg, hmsg⟩)) Y.objLocals hskip htr [] hd6
    (by simp only [List.length_cons, hlen, List.length_nil]; omega) (by simp only [List.length_cons, hlen, List.length_nil]; exact hRlocals)
  obtain ⟨hwalk, hrun, hended, hWU, hsame⟩ := X₂.athrowLeaves hexec (g := { g with stack := .ref a :: rest, pc := g.pc + 3 }) hg hlocked hentered hout (a := a) (rest := rest) rfl hd9 hlocks
  have hlt : a < ((T0.setVm vm₁).setVm vm₂).heap.size := (Array.getElem?_eq_some_iff.mp hcell).1
  have hU9 := heapAt_setCell_self (s := (T0.setVm vm₁).setVm vm₂) (plainBareV T.toThrowableT (freshCell P1.m.cls kX) a u0 sen msg) hlt
  refine ⟨_, _, st1 _ (fun acts => ?_), hrun, hended, hWU, hsame.weaken (fun y hy hlt' => ?_) (Nat.le_refl _) (Nat.le_refl _), hU9, rfl, rfl, fun q hq => ?_⟩
  · rw [doInvoke_state]
    exact st2 _ hwalk
  · rcases List.mem_append.mp hy with h1 | h1
    · exact h1
    · exfalso
      have hb : y.base = a := by
        simp only [List.mem_cons, List.not_mem_nil, or_false] at h1
        rcases h1 with rfl | rfl | rfl | rfl | rfl <;> rfl
      rw [hb] at hlt'
      exact Nat.not_lt.mpr hnew hlt'
  · exact heapAt_setCell_ne (s := (T0.setVm vm₁).setVm vm₂) _ (Ne.symm hq)
end RTT
