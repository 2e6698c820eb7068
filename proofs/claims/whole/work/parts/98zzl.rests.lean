/-! PegLaws.rests by contract; a call of it, from where its exception is caught -/
section RTE
variable {S : pg_S} {Λ : pg_L} {M : pg_M} {a b c w : Int32}
def rt_P (S : pg_S) (Λ : pg_L) (As : List Value) (M : pg_M) : Array Value → State → Prop := fun v U => v = (As.map (pg_up S)).toArray ∧ pg_R S Λ M U.heap ∧ pg_K S U ∧ rt_C S U
abbrev rt_ws : List Cond := Cond.code yX10_rests cX10_rests 7 (some .int) :: pg_gd
theorem rt_Ev {rm : Room} (h1 : 20 ≤ rm.frames) (h2 : 2000 ≤ rm.locals) (h3 : rm.cells = 1) (h4 : rm.slots = 6) : MetFree S.1 yX10_rests (headSpec rt_ws rm) (rt_P S Λ [.ref 0, .int a, .int b, .int c, .int w] M) (fun _ _ _ _ _ => True) (rt_Q S Λ M (sp_qrests a b c w)) := by
  refine MetFree.of_bodyS (code := cX10_rests) (maxLocals := 7) (ret := some .int) (by decide) ?_ ?_
  · intro args s m h hn
    obtain ⟨meth, cd, q1, q2, q3, q4, q5, q6, -, -⟩ := Cond.code_spec hn (atoms_spec (ws := rt_ws) h _ List.mem_cons_self)
    exact ⟨meth, cd, q1, q2, q3, q4, q5, q6⟩
  · intro p e s m args below meth cd s₁ B hml hP _
    obtain ⟨rfl, hR, hK, hC⟩ := hP
    have hts := atoms_spec (ws := rt_ws) B.pre
    have hl := lv_entry (([.ref 0, .int a, .int b, .int c, .int w] : List Value).map (pg_up S)) (n := 7) (by rw [pg_sl]; exact Nat.le_of_ble_eq_true rfl)
    rw [pg_args] at hl
    have hh0 : s₁.heap = s.heap := by rw [B.state]; rfl
    have K := rt_rests (S := S) (Λ := Λ) (M := M) (a := a) (b := b) (c := c) (w := w) p e s m _ below meth cd s.heap [] (headSpec rt_ws rm).room _ ⟨B.exec, B.bytes, hml, findClass_of_methodNamed B.named, fun w hw => hts w (List.mem_cons_of_mem _ hw), hK, B.returns, B.notSynchronized⟩ ⟨h1, h2, by show 1 ≤ rm.cells; omega, by show 6 ≤ rm.slots; omega, B.noHandlers (hts _ List.mem_cons_self), hC, hR.2.1⟩ hR (fun q hq => by cases hq) hl
    rw [lg_entry_eq]
    obtain ⟨t, a1, o, b1, b2, b3⟩ := K s₁ hh0 (Stand.of_body B)
    exact ⟨t, o, a1, b1, b2, b3⟩
end RTE
section RTS
variable {p : Program} {l : Launch} {e : Env} {R : Room} {s : State} {m : MethodId} {args : Array Value} {below : List Frame} {meth : Method} {c : Code} {U : State} {locs : List Loc} {cells slots : Nat}
/-- behind a call that has ended, whichever way: the walk stands, and the state is that one but for its frames -/
theorem rt_stand (X : Stand p l e R s m args below meth c U locs cells slots) {g : JFrame} (hg : g.method = m) {mk : MethodId} {As : Array Value} {s₂ : State} {L : List Loc} {k n : Nat} (hW : U.WarmedH s₂.vm) (hs : (U.calling g mk As).sameButNew ({ s₂ with vm := (U.calling g mk As).vm } : State) L k n) :
    Stand p l e R s m args below meth c (({ U with heap := s₂.heap, slotsUsed := s₂.slotsUsed } : State).setVm s₂.vm) (locs ++ L) (cells + k) (slots + n) ∧ s₂ = ((({ U with heap := s₂.heap, slotsUsed := s₂.slotsUsed } : State).setVm s₂.vm)).setFrames s₂.frames := by
  obtain ⟨e2, q2, q3, q4, q5, q6⟩ := hs
  have h : At U g.method c below := by rw [hg]; exact X.here
  have e3 : s₂ = ({ (U.calling g mk As).setFrames s₂.frames with heap := s₂.heap, slotsUsed := s₂.slotsUsed } : State).setVm s₂.vm := by
    have : s₂ = ({ s₂ with vm := (U.calling g mk As).vm } : State).setVm s₂.vm := rfl
    rw [e2] at this
    exact this
  obtain ⟨g₀, hg0⟩ := Option.isSome_iff_exists.mp h.top
  obtain ⟨r, hr⟩ := State.topJava?_eq_some.mp hg0
  have hsame : U.sameButNew ({ U with heap := s₂.heap, slotsUsed := s₂.slotsUsed } : State) L k n := by
    refine ⟨?_, q2, q3, q4, q5, q6⟩
    obtain ⟨t, ht, -⟩ := State.frames_cons hr
    show ({ U with heap := s₂.heap, slotsUsed := s₂.slotsUsed } : State) = { U.setFrames U.frames with heap := s₂.heap, slotsUsed := s₂.slotsUsed }
    rw [State.setFrames_self ht]
  refine ⟨⟨X.admits, X.cas, X.clock, X.frames, X.room, X.hears, X.method, X.code, (X.here.setHeapUsed s₂.heap s₂.slotsUsed).setVm hW.alike, X.tail, State.WarmedH.trans X.warmed hW, X.limits, X.bytes, X.same.trans (hsame.setVm s.vm)⟩, ?_⟩
  refine e3.trans ?_
  rw [State.calling_eq h.top, State.setFrames_setFrames]
  rfl
theorem rt_good : ∀ w ∈ rt_ws, w ∈ pg_gd := fun w hw => (List.mem_cons.mp hw).elim (fun q => by rw [q]; exact okX10_rests.2.2.2.1) id
end RTS
section RTC
variable {S : pg_S} {Λ : pg_L} {M : pg_M} {a b c w : Int32}
variable {p : Program} {e : Env} {R : Room} {s : State} {m : MethodId} {args : Array Value} {below : List Frame} {meth : Method} {cd : Code} {H : Heap} {locs : List Loc} {cells slots : Nat} {Q : State → Prop} {lj : Array Slot}
set_option maxHeartbeats 1000000 in
/-- x.rests(a, b, c, w) in the law's own rests: it comes back with its answer, or its exception is caught there -/
theorem rt_callR (hexec : p.tables.exec = Jvm.exec) (hb : cd.code = cL_rests) (hml : cd.maxLocals = 7) (hown : s.vm.findClass RL = some m.cls) (hgd : ∀ w ∈ pg_gd, w.before args s = true) (hK : pg_K S s) (hC : rt_C S s) {x : ExceptionTableEntry} (htab : cd.exceptionTable.toList = [x]) (hx : (x.startPc, x.endPc, x.handlerPc, x.catchType) = (0, 14, 17, 13))
    (hroom : 40 ≤ R.frames ∧ 4000 ≤ R.locals ∧ cells + 1 ≤ R.cells ∧ slots + 6 ≤ R.slots) (hM : pg_R S Λ M H) {fs : List pg_F} (hΛ : Λ 0 = some (.inl (10, fs))) (hj : lj.size = 7) {rest : List Value} (hst : (rest.map fun v => v.category).sum ≤ 8)
    (k1 : ∀ (v : Int32) (H1 : Heap) (L : List Loc), sp_qrests a b c w = some v → pg_R S Λ M H1 → (∀ q ∈ L, S.2.1 ≤ q.base) → W p S.1 e R s m args below meth cd H1 (locs ++ L) (cells + 1) (slots + 6) Q (F0 m 12 lj (.int v :: rest)))
    (k2 : ∀ (z : Nat) (H1 : Heap) (L : List Loc), sp_qrests a b c w = none → pg_R S Λ M H1 → (∀ q ∈ L, S.2.1 ≤ q.base) → W p S.1 e R s m args below meth cd H1 (locs ++ L) (cells + 1) (slots + 6) Q (F0 m 17 lj [.ref z])) :
    W p S.1 e R s m args below meth cd H locs cells slots Q (F0 m 9 lj (.int w :: .int c :: .int b :: .int a :: .ref (pg_ad S 0) :: rest)) := by
  intro T hT X
  obtain ⟨x1, x2, x3, x4⟩ := x
  simp only [Prod.mk.injEq] at hx
  obtain ⟨rfl, rfl, rfl, rfl⟩ := hx
  obtain ⟨cellB, hcB, hoB, hclB⟩ := va_recv hK.1 (pg_one hM hΛ) (show pg_cls[10]? = some (RX10, TX10, 13) from rfl) (q0 := 0) rfl
  obtain ⟨mk, methM, hnamed, hmethM, hstM, habM⟩ := Cond.instanceMethod_spec (hgd _ okX10_rests.1)
  obtain ⟨methM', cM, hmethM', -, -, -, -, -, -, hsigM⟩ := Cond.code_spec hnamed (hgd _ okX10_rests.2.2.2.1)
  cases hmethM.symm.trans hmethM'
  obtain ⟨c2, r2, m2, q1, q2, q3, q4, kP, hkP, hkPi⟩ := Cond.selects_spec (hgd _ okX10_rests.2.1)
  cases hclB.symm.trans q1
  cases (State.methodFound?_of_named hnamed (by decide)).symm.trans q2
  cases hnamed.symm.trans q3
  have hselP : selectMethod e.platform s.vm cellB.cls mk = .method mk := by rw [Launch.admits_selectMethod X.admits]; exact q4
  have hlen : ([.int a, .int b, .int c, .int w] : List Value).length = methM.sig.parameters.length := by
    have h4 : (parseMethodDescriptor yX10_rests.desc).map (fun d => d.parameters.length) = some 4 := rfl
    rw [hsigM] at h4
    exact (Option.some.inj h4).symm
  obtain ⟨vm₁, X₁, hstep₁⟩ := X.invokevirtual hexec hown (hgd _ lkL_7) hnamed hmethM hstM hkP hkPi (by decide) (a := pg_ad S 0) (cell := cellB) (by rw [hT]; exact hcB) (fun z h => by rw [h] at hoB; cases hoB) hselP hmethM habM hkP hkPi (g := F0 m 9 lj (.int w :: .int c :: .int b :: .int a :: .ref (pg_ad S 0) :: rest)) rfl (argsL := [.int a, .int b, .int c, .int w]) (rest := rest) hlen rfl (by rw [hb]; exact dL_rests_9)
  have hws : ∀ w ∈ rt_ws, ∀ (a' : Array Value) (U : State), s.WarmedH U.vm → w.before a' U = true := fun w hw a' U hW => word_at hW (good_of_word (List.mem_filter.mp (rt_good w hw)).2) (hgd _ (rt_good w hw))
  generalize hU : T.setVm vm₁ = U at X₁ hstep₁
  have hUh : U.heap = H := by rw [← hU]; exact hT
  generalize hg' : F0 m 9 lj rest = g'
  have hgm : g'.method = m := by rw [← hg']
  generalize hAs : (Value.ref (pg_ad S 0) :: ([.int a, .int b, .int c, .int w] : List Value)).toArray = As at hstep₁
  have h : At U g'.method cd below := by rw [hgm]; exact X₁.here
  have hdg : decode cd.code g'.pc = .ok (.invokevirtual 7, 3) := by rw [hb, ← hg']; exact dL_rests_9
  have hnU := X₁.named hnamed
  obtain ⟨methY, cY, hmY, hcY, -, hlY, -⟩ := Cond.code_spec hnU (hws _ List.mem_cons_self As U X₁.warmed)
  obtain ⟨kY, hkY, -⟩ := className_of_methodNamed hnU
  have hinitY : kY.init = .initialized := Cond.initialized_spec (findClass_of_methodNamed hnU) hkY (word_at (a' := As) X₁.warmed (good_of_word (List.mem_filter.mp okX10_rests.2.2.1).2) (hgd _ okX10_rests.2.2.1))
  have happ : (headSpec rt_ws ({ frames := 20, cells := 1, slots := 6, locals := 2000 } : Room)).appliesLoose yX10_rests e.platform (U.calling g' mk As) = true :=
    Spec.appliesLoose_calling (g := g') h hdg hnU hkY hinitY
      (X₁.room_calling (g := g') (R' := ({ frames := 20, cells := 1, slots := 6, locals := 2000 } : Room)) (by rw [← hg', hml]; exact hj) hmY hcY (by show 20 + 1 ≤ R.frames; omega) (by
        have : 2 * g'.monitorRoom + (g'.stack.map fun v => v.category).sum ≤ 8 := by rw [← hg']; exact lv_room hst
        rw [hlY]
        show _ + _ + (7 + 11) + 2000 ≤ R.locals
        omega) (by show cells + 1 ≤ R.cells; omega) (by show slots + 6 ≤ R.slots; omega)) (atoms_intro fun w hw => hws w hw _ _ X₁.warmed)
  obtain ⟨mid, hmid⟩ := h.above
  have hfr : (U.setTop g').frames = (.java g' :: mid) ++ below := by rw [State.frames_setTop' g' h.top, hmid]; rfl
  obtain ⟨o, s₂, hsteps, -, hend, hq⟩ := Steps.callFree (rt_Ev (S := S) (Λ := Λ) (M := M) (a := a) (b := b) (c := c) (w := w) (rm := ({ frames := 20, cells := 1, slots := 6, locals := 2000 } : Room)) (Nat.le_refl _) (Nat.le_refl _) rfl rfl) p X₁.admits X₁.cas X₁.clock (acts := []) hfr happ ⟨by rw [← hAs]; rfl, by show pg_R S Λ M U.heap; rw [hUh]; exact hM, pg_K.warm (U := U.calling g' mk As) X₁.warmed hK, rt_C.moved (U := U.calling g' mk As) X₁.warmed.alike hC⟩ trivial
  have hq' : rt_Q S Λ M (sp_qrests a b c w) As (U.calling g' mk As) o s₂ := hq
  obtain ⟨hW₂, ⟨L, hsame, hLb⟩, hR2, hres⟩ := hq'
  have hW3 : U.WarmedH s₂.vm := hW₂
  obtain ⟨X2, hs2⟩ := rt_stand X₁ hgm (mk := mk) (As := As) (s₂ := s₂) hW3 hsame
  rw [State.frames_setTop' g' h.top] at hend
  generalize hU2 : (({ U with heap := s₂.heap, slotsUsed := s₂.slotsUsed } : State).setVm s₂.vm) = U2 at X2 hs2
  have h2h : U2.heap = s₂.heap := by rw [← hU2]; rfl
  have h2f : U2.frames = U.frames := by rw [← hU2]; rfl
  have h2v : U2.vm = s₂.vm := by rw [← hU2]; rfl
  obtain ⟨g₀, hg0⟩ := Option.isSome_iff_exists.mp h.top
  obtain ⟨r, hr⟩ := State.topJava?_eq_some.mp hg0
  have hr2 : U2.frames = .java g₀ :: r := h2f.trans hr
  cases hres9 : sp_qrests a b c w with
  | some v =>
    rw [hres9] at hres
    subst hres
    obtain ⟨c₂, i₂, len₂, hc₂, hd₂, hf₂⟩ := hend
    have hcc : c₂ = cd := by
      have h1 : s₂.code? g'.method = U.code? g'.method := by
        rw [State.code?_eq, State.code?_eq, hW3.alike.method?]
      exact Option.some.inj (hc₂.symm.trans (h1.trans h.code))
    subst hcc
    have hl3 : len₂ = 3 := by rw [hdg] at hd₂; cases hd₂; rfl
    subst hl3
    obtain ⟨t, a1, b1⟩ := k1 v s₂.heap L hres9 hR2 hLb U2 h2h X2
    refine ⟨t, hstep₁ t (fun acts => ?_), b1⟩
    rw [doInvoke_state]
    show Steps p.tables e below (doInvoke e (U.setTop (F0 m 9 lj rest)) [] mk As).1 t
    rw [hg']
    refine hsteps.trans ?_
    have e9 : s₂ = U2.setTop (F0 m 12 lj (.int v :: rest)) := by
      refine hs2.trans ?_
      rw [hf₂, State.setTop_of_frames _ hr2, ← hg', hr]
      rfl
    rw [e9]
    exact a1
  | none =>
    rw [hres9] at hres
    obtain ⟨z, ce, rfl, hce, hcevm, hcecls⟩ := hres
    have hend' : s₂.frames = .throwing z :: .java g' :: U.frames.tail := hend
    have hpl : e.platform.magicAccessors = ({} : Platform).magicAccessors := by rw [X.admits.platform]
    obtain ⟨cT, hcT, hcl⟩ := Cond.classLink_spec hown (hgd (.classLink RL 13 rt_N) (pg_g (pg_t5 203 rfl) rfl)) e.platform hpl
    obtain ⟨dk, _, _, kt, hd, _, _, _, _, hkt, _, hopen⟩ := hcl.here
    have hcl₀ := X2.warmed.classLinks hcl
    have hW' : s.WarmedH (U2.vm.noted m.cls 13 (.cls cT)) := X2.warmed.noted hd hopen (State.rightAt_cls hcl)
    have hcc : ce.cls = cT := by
      have h1 : U.vm.findClass rt_N = some ce.cls := hcecls
      rw [X₁.warmed.alike.findClass, hcT] at h1
      exact (Option.some.inj h1).symm
    obtain ⟨kt', hkt', -⟩ := hW'.alike.2.2 _ _ hkt
    obtain ⟨t, a1, b1⟩ := k2 z s₂.heap L hres9 hR2 hLb (U2.setVm (U2.vm.noted m.cls 13 (.cls cT))) h2h (X2.noted hW')
    refine ⟨t, hstep₁ t (fun acts => ?_), b1⟩
    rw [doInvoke_state]
    show Steps p.tables e below (doInvoke e (U.setTop (F0 m 9 lj rest)) [] mk As).1 t
    rw [hg']
    refine hsteps.trans ?_
    have e9 : s₂ = (U2.setTop g').pushFrame (.throwing z) := by
      refine hs2.trans ?_
      rw [hend', State.pushFrame, State.frames_setTop' g' (by rw [State.topJava?_eq_some.mpr ⟨r, hr2⟩]; rfl), State.setTop_of_frames _ hr2, State.setFrames_setFrames, h2f]
    have h2 : At U2 g'.method cd below := by rw [hgm]; exact X2.here
    rw [e9]
    refine rt_caught (g := g') (pc := 17) (vm' := U2.vm.noted m.cls 13 (.cls cT)) h2 (fun Q9 E9 d9 acts9 => rt_finds (x := ⟨0, 14, 17, 13⟩) (cT := cT) (cell := ce) (meth := meth) (cd := cd) (by rw [Stand.throwing_vm, hgm]; exact X2.method') X2.code htab (by rw [← hg']; rfl) (by decide) (by rw [Stand.throwing_vm, hgm]; exact resolveClass_links e.toSetting hcl₀) (by rw [Stand.throwing_vm]; no_record) (by rw [Stand.throwing_heap, h2h]; exact hce) (fun k hk => by rw [hcevm] at hk; cases hk) ⟨kt', by rw [hcc]; exact hkt'⟩ ⟨kt', hkt'⟩ (by rw [hcc]; exact va_asg _ _) Q9 E9 d9 acts9) ?_
    rw [← hg']
    exact a1
end RTC
