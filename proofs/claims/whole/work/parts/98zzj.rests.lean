/-! PegLaws.rests, which answers or throws: its own face -/
def rt_Q (S : pg_S) (Λ : pg_L) (M : pg_M) (res : Option Int32) : Array Value → State → Outcome → State → Prop := fun _ st o t =>
  st.WarmedH t.vm ∧ (∃ L : List Loc, st.sameButNew ({ t with vm := st.vm } : State) L 1 6 ∧ ∀ q ∈ L, S.2.1 ≤ q.base) ∧ pg_R S Λ M t.heap ∧
  match res with
  | some v => o = .returned (some (.int v))
  | none => ∃ (a : Nat) (ce : Cell), o = .threw a ∧ t.heap[a]? = some ce ∧ ce.vm = .none ∧ st.vm.findClass rt_N = some ce.cls
def rt_Z (S : pg_S) (Λ : pg_L) (M : pg_M) (res : Option Int32) (below : List Frame) (args : Array Value) (s : State) : State → Prop := fun t => ∃ o, t.status = .running ∧ Ended t below o ∧ rt_Q S Λ M res args s o t
/-- what a method needs that may throw -/
def rt_C (S : pg_S) (s : State) : Prop := S.1.flags = pinnedFlags ++ [noTraceFlag] ∧ rt_st "UNASSIGNED_STACK" Bundle.steD S.2.1 s S.2.2.2.2.2 ∧ rt_st "SUPPRESSED_SENTINEL" Bundle.listD S.2.1 s S.2.2.2.2.2
theorem rt_C.moved {S : pg_S} {u U : State} (hvm : u.vm.Alike U.vm) (h : rt_C S u) : rt_C S U := ⟨h.1, h.2.1.moved hvm, h.2.2.moved hvm⟩
def rt_At (S : pg_S) (Λ : pg_L) (pc : Nat) (ls : List (Nat × Value)) (st : List Value) (M : pg_M) (res : Option Int32) : Prop :=
  ∀ (p : Program) (e : Env) (s : State) (m : MethodId) (args : Array Value) (below : List Frame) (meth : Method) (c : Code) (H : Heap) (locs : List Loc) (R : Room) (lj : Array Slot),
    pg_C S YX10_rests p s m args meth c → (20 ≤ R.frames ∧ 2000 ≤ R.locals ∧ 1 ≤ R.cells ∧ 6 ≤ R.slots ∧ c.exceptionTable.isEmpty = true ∧ rt_C S s ∧ ∀ q : Nat, q < S.2.1 → s.heap[q]? = S.2.2.2.2.2[q]?) → pg_R S Λ M H → (∀ q ∈ locs, S.2.1 ≤ q.base) → lv_has lj 7 (pg_ml S ls) →
    W p S.1 e R s m args below meth c H locs 0 0 (rt_Z S Λ M res below args s) (F0 m pc lj (st.map (pg_up S)))
theorem rt_mono {p : Program} {l : Launch} {e : Env} {R : Room} {s : State} {m : MethodId} {args : Array Value} {below : List Frame} {meth : Method} {c : Code} {H : Heap} {locs : List Loc} {cells slots : Nat} {Q Q' : State → Prop} {g : JFrame} (h : ∀ t, Q t → Q' t) (k : W p l e R s m args below meth c H locs cells slots Q g) : W p l e R s m args below meth c H locs cells slots Q' g := by
  intro T hT X
  obtain ⟨t, a1, b1⟩ := k T hT X
  exact ⟨t, a1, h t b1⟩
theorem rt_ldcw {p : Program} {l : Launch} {e : Env} {R : Room} {s : State} {m : MethodId} {args : Array Value} {below : List Frame} {meth : Method} {c : Code} {H : Heap} {locs : List Loc} {cells slots : Nat} {Q : State → Prop} {cc : ByteArray} {pc : Nat} {ls : Array Slot} {rest : List Value}
    (hexec : p.tables.exec = Jvm.exec) (hb : c.code = cc) {own tx : String} {index q : Nat} (hown : s.vm.findClass own = some m.cls) (hZ : vk_R own index tx q s) (hdg : decode cc pc = .ok (.ldc_w index, 3))
    (k : W p l e R s m args below meth c H locs cells slots Q (F0 m (pc + 3) ls (.ref q :: rest))) : W p l e R s m args below meth c H locs cells slots Q (F0 m pc ls rest) := by
  intro T hT X
  obtain ⟨t, a1, b1⟩ := k T hT X
  refine ⟨t, ?_, b1⟩
  obtain ⟨k0, cf, i, a', hk, hcf, hcp, -, hr, hev'⟩ := Cond.stringRef_spec hown hZ.1
  cases hZ.2.symm.trans hev'
  obtain ⟨k', hk', he⟩ := X.warmed.alike.2.2 _ _ hk
  have hr' : k'.resolved[index]? = some (some (.string q)) := by
    rcases X.warmed.entry hk hk' index with h | ⟨h, -⟩
    · rw [h]; exact hr
    · rw [hr] at h; cases h
  subst hb
  jvm_step X.here [hexec, hdg, ldc_w.wp_string (e := e) (s := T) (f := F0 m pc ls rest) X.here.top hk' (by rw [he]; exact hcf) hcp hr']
  exact a1
section RTA
variable {S : pg_S} {Λ : pg_L} {pc : Nat} {ls ls' : List (Nat × Value)} {st : List Value} {M : pg_M} {res : Option Int32}
theorem rt_iconst {n : Int} {v : Int32} (hdg : decode cX10_rests pc = .ok (.iconst n, 1)) (hv : Int32.ofInt n = v) (k : rt_At S Λ (pc + 1) ls (.int v :: st) M res) : rt_At S Λ pc ls st M res :=
  fun p e s m args below meth c H locs R lj C hR hM hL hl => lv_iconst C.1 C.2.1 hdg hv (k p e s m args below meth c H locs R lj C hR hM hL hl)
theorem rt_bipush {n : Int} {v : Int32} (hdg : decode cX10_rests pc = .ok (.bipush n, 2)) (hv : (Int8.ofInt n).toInt32 = v) (k : rt_At S Λ (pc + 2) ls (.int v :: st) M res) : rt_At S Λ pc ls st M res :=
  fun p e s m args below meth c H locs R lj C hR hM hL hl => lv_bipush C.1 C.2.1 hdg hv (k p e s m args below meth c H locs R lj C hR hM hL hl)
theorem rt_if_eq {x : Int32} {off : Int} {tgt : Nat} (hdg : decode cX10_rests pc = .ok (.ifCond .eq off, 3)) (ht : (pc : Int) + off = (tgt : Int)) (kt : x = 0 → rt_At S Λ tgt ls st M res) (kf : ¬ x = 0 → rt_At S Λ (pc + 3) ls st M res) : rt_At S Λ pc ls (.int x :: st) M res :=
  fun p e s m args below meth c H locs R lj C hR hM hL hl => lv_if_eq C.1 C.2.1 hdg ht (fun h9 => kt h9 p e s m args below meth c H locs R lj C hR hM hL hl) (fun h9 => kf h9 p e s m args below meth c H locs R lj C hR hM hL hl)
theorem rt_icmp_eq {x y : Int32} {off : Int} {tgt : Nat} (hdg : decode cX10_rests pc = .ok (.if_icmp .eq off, 3)) (ht : (pc : Int) + off = (tgt : Int)) (kt : x = y → rt_At S Λ tgt ls st M res) (kf : ¬ x = y → rt_At S Λ (pc + 3) ls st M res) : rt_At S Λ pc ls (.int y :: .int x :: st) M res :=
  fun p e s m args below meth c H locs R lj C hR hM hL hl => lv_icmp_eq C.1 C.2.1 hdg ht (fun h9 => kt h9 p e s m args below meth c H locs R lj C hR hM hL hl) (fun h9 => kf h9 p e s m args below meth c H locs R lj C hR hM hL hl)
theorem rt_icmp_ne {x y : Int32} {off : Int} {tgt : Nat} (hdg : decode cX10_rests pc = .ok (.if_icmp .ne off, 3)) (ht : (pc : Int) + off = (tgt : Int)) (kt : ¬ x = y → rt_At S Λ tgt ls st M res) (kf : x = y → rt_At S Λ (pc + 3) ls st M res) : rt_At S Λ pc ls (.int y :: .int x :: st) M res :=
  fun p e s m args below meth c H locs R lj C hR hM hL hl => lv_icmp_ne C.1 C.2.1 hdg ht (fun h9 => kt h9 p e s m args below meth c H locs R lj C hR hM hL hl) (fun h9 => kf h9 p e s m args below meth c H locs R lj C hR hM hL hl)
theorem rt_icmp_ge {x y : Int32} {off : Int} {tgt : Nat} (hdg : decode cX10_rests pc = .ok (.if_icmp .ge off, 3)) (ht : (pc : Int) + off = (tgt : Int)) (kt : y ≤ x → rt_At S Λ tgt ls st M res) (kf : ¬ y ≤ x → rt_At S Λ (pc + 3) ls st M res) : rt_At S Λ pc ls (.int y :: .int x :: st) M res :=
  fun p e s m args below meth c H locs R lj C hR hM hL hl => lv_icmp_ge C.1 C.2.1 hdg ht (fun h9 => kt h9 p e s m args below meth c H locs R lj C hR hM hL hl) (fun h9 => kf h9 p e s m args below meth c H locs R lj C hR hM hL hl)
theorem rt_goto {off : Int} {tgt : Nat} (hdg : decode cX10_rests pc = .ok (.goto off, 3)) (ht : (pc : Int) + off = (tgt : Int)) (k : rt_At S Λ tgt ls st M res) : rt_At S Λ pc ls st M res :=
  fun p e s m args below meth c H locs R lj C hR hM hL hl => lv_goto C.1 C.2.1 hdg ht (k p e s m args below meth c H locs R lj C hR hM hL hl)
theorem rt_iload_n {k : Fin 4} {i j : Nat} {x : Int32} (hdg : decode cX10_rests pc = .ok (.iload_n k, 1)) (hi : (k : Nat) = i) (hj : ls[j]? = some (i, .int x)) (kk : rt_At S Λ (pc + 1) ls (.int x :: st) M res) : rt_At S Λ pc ls st M res :=
  fun p e s m args below meth c H locs R lj C hR hM hL hl => lv_iload_n C.1 C.2.1 hdg hi (pg_loc (v := .int x) hl hj) (kk p e s m args below meth c H locs R lj C hR hM hL hl)
theorem rt_iload {i j : Nat} {x : Int32} (hdg : decode cX10_rests pc = .ok (.iload i, 2)) (hj : ls[j]? = some (i, .int x)) (kk : rt_At S Λ (pc + 2) ls (.int x :: st) M res) : rt_At S Λ pc ls st M res :=
  fun p e s m args below meth c H locs R lj C hR hM hL hl => lv_iload C.1 C.2.1 hdg (pg_loc (v := .int x) hl hj) (kk p e s m args below meth c H locs R lj C hR hM hL hl)
theorem rt_istore {i : Nat} {x : Int32} (hdg : decode cX10_rests pc = .ok (.istore i, 2)) (hn : i < 7) (hls : (i, Value.int x) :: ls.filter (fun q => !(q.1 == i) && !(q.1 + 1 == i && q.2.category == 2)) = ls') (kk : rt_At S Λ (pc + 2) ls' st M res) : rt_At S Λ pc ls (.int x :: st) M res :=
  fun p e s m args below meth c H locs R lj C hR hM hL hl => lv_istore C.1 C.2.1 hdg hl hn rfl (fun lj' hl' => kk p e s m args below meth c H locs R lj' C hR hM hL (by rw [pg_f1] at hl'; rw [← hls]; exact hl'))
theorem rt_iinc {i j : Nat} {n : Int} {x v : Int32} (hdg : decode cX10_rests pc = .ok (.iinc i n, 3)) (hj : ls[j]? = some (i, .int x)) (hv : x + Int32.ofInt n = v) (hn : i < 7) (hls : (i, Value.int v) :: ls.filter (fun q => !(q.1 == i) && !(q.1 + 1 == i && q.2.category == 2)) = ls') (kk : rt_At S Λ (pc + 3) ls' st M res) : rt_At S Λ pc ls st M res :=
  fun p e s m args below meth c H locs R lj C hR hM hL hl => lv_iinc (k := j) C.1 C.2.1 hdg hl (by simp [pg_ml, List.getElem?_map, hj]; rfl) hv hn rfl (fun lj' hl' => kk p e s m args below meth c H locs R lj' C hR hM hL (by rw [pg_f1] at hl'; rw [← hls]; exact hl'))
/-- a call without cells, of a static method, that leaves the memory -/
theorem rt_callS {Y' : pg_Y} {d' index : Nat} {As : List Value} {v : Int32} (ok : pg_okS Y') (hlink : Cond.methodLink RX10 index Y'.1 ∈ pg_gd) (hn : (parseMethodDescriptor Y'.1.desc).map (fun d => d.parameters.length) = some As.length) (hdd : d' ≤ 8) (hst : (st.map fun v => v.category).sum ≤ 8)
    (hE : pg_Ev S Λ Y' d' As M (fun r M' => ∃ w, r = some (.int w) ∧ (w = v ∧ M' = M))) (hdg : decode cX10_rests pc = .ok (.invokestatic index, 3)) (kk : rt_At S Λ (pc + 3) ls (.int v :: st) M res) : rt_At S Λ pc ls (As.reverse ++ st) M res := by
  intro p e s m args below meth c H locs R lj C9 hR hM hL hl
  obtain ⟨o1, o3, o4, o5, o6, o7⟩ := ok
  have hM9 := hE ({ frames := d' + 8, cells := 0, slots := 0, locals := 64 * d' + 512 } : Room) (Nat.le_refl _) (Nat.le_refl _) rfl rfl
  have hrun : va_Run p S.1 e R s m args below meth c H locs 0 0 0 0 (F0 m pc lj ((As.reverse ++ st).map (pg_up S))) (st.map (pg_up S)) (pg_Q S Λ (fun r M' => ∃ w, r = some (.int w) ∧ (w = v ∧ M' = M)) (As.map (pg_up S)).toArray) (fun q => S.2.1 ≤ q) := by
    refine va_runS (As := As.map (pg_up S)) (n := As.length) ⟨C9.1, C9.2.1, C9.2.2.1, C9.2.2.2.1, C9.2.2.2.2.1⟩ hM9 (va_cwS As.length C9.2.2.2.2.1 (fun w hw => ?_) rfl rfl rfl ⟨o5, o6, hn⟩ ⟨by show d' + 8 + 1 ≤ R.frames; omega, by show 8 + (Y'.2.2.1 + 11) + (64 * d' + 512) ≤ R.locals; omega⟩) ⟨pg_blind, fun U hU hW => ⟨rfl, by rw [hU]; exact hM, pg_K.warm hW C9.2.2.2.2.2.1⟩⟩ rfl (by simp) hl.1 (by simp) (lv_room (by rw [List.map_map]; simpa [Function.comp_def, pg_up_cat] using hst)) hdg ⟨Nat.zero_le _, Nat.zero_le _⟩
    have hg := pg_good o4
    unfold va_wsS at hw
    rcases List.mem_append.mp hw with h | h
    · have : w ∈ pg_gd := by
        simp only [List.mem_cons, List.not_mem_nil, or_false] at h
        rcases h with rfl | rfl | rfl
        · exact hlink
        · exact o1
        · exact o3
      exact hg w (List.mem_cons_of_mem _ this)
    · exact hg w h
  intro T hT X
  obtain ⟨v9, st₀, t, T', L9, h0, X', hL', e1, e2, ⟨r, M2, hv, hp, hm⟩, go⟩ := hrun T hT X
  have hv' : v9 = r.map (pg_up S) := Outcome.returned.inj hv
  subst hv'
  obtain ⟨w, rfl, rfl, e9⟩ := hp
  obtain rfl := e9.symm
  have h9 := kk p e s m args below meth c T'.heap (locs ++ L9) R lj C9 hR (by rw [e1]; exact hm) (fun q hq => (List.mem_append.mp hq).elim (hL q) (hL' q)) hl
  obtain ⟨t2, a1, b1⟩ := h9 T' rfl X'
  exact ⟨t2, go t2 a1, b1⟩
theorem rt_ret {v : Int32} (hdg : decode cX10_rests pc = .ok (.ireturn, 1)) : rt_At S Λ pc ls [.int v] M (some v) := by
  intro p e s m args below meth c H locs R lj C9 hR hM hL hl
  refine rt_mono (fun t ht => ?_) (W.iret (free := fun q => S.2.1 ≤ q) (Qc := fun _ st o t => o = .returned (some (.int v)) ∧ pg_R S Λ M t.heap) C9.1 C9.2.1 C9.2.2.2.2.2.2.1 (fun t h _ => ⟨rfl, by rw [h]; exact hM⟩) hL hdg C9.2.2.2.2.2.2.2)
  obtain ⟨o, q1, q2, ⟨q3, q4⟩, L, ⟨-, q5, q6⟩, q7⟩ := ht
  exact ⟨o, q1, q2, q5, ⟨L, q6.weaken (fun y hy _ => hy) (by omega) (by omega), q7⟩, q4, q3⟩
/-- the throw -/
theorem rt_thr {q index : Nat} {tx : String} (hq : (RX10, index, tx, q) ∈ pg_strs) (d0 : decode cX10_rests pc = .ok (.new 261, 3)) (d1 : decode cX10_rests (pc + 3) = .ok (.dup, 1)) (d2 : decode cX10_rests (pc + 4) = .ok (.ldc_w index, 3)) (d3 : decode cX10_rests (pc + 7) = .ok (.invokespecial 265, 3)) (d4 : decode cX10_rests (pc + 10) = .ok (.athrow, 1)) : rt_At S Λ pc ls [] M none := by
  intro p e s m args below meth c H locs R lj C9 hR hM hL hl T hT X
  obtain ⟨r1, r2, r3, r4, r5, r6, r7⟩ := hR
  have hsz : s.heap.size ≤ H.size := by
    have := X.same.2.1
    rw [← hT]
    exact this
  have gd := C9.2.2.2.2.1
  obtain ⟨cX, kX0, hcX, -, -, -, -, -⟩ := Cond.instantiable_spec (gd (.instantiable rt_N 6) (pg_g (pg_t5 212 rfl) rfl))
  have key : W p S.1 e R s m args below meth c H locs 0 0 (rt_Z S Λ M none below args s) (F0 m pc lj []) := by
    refine W.newcK (cells := 0) (slots := 0) (n := 6) C9.1 C9.2.1 C9.2.2.2.1 (gd (.classLink RX10 261 rt_N) (pg_g (pg_t5 211 rfl) rfl)) (gd (.instantiable rt_N 6) (pg_g (pg_t5 212 rfl) rfl)) (gd (.initialized rt_N) (pg_g (pg_t1 25 rfl) rfl)) rfl d0 (by omega) (by omega) hcX rfl (fun H1 kC hkC e1 z1 o1 => ?_)
    show W p S.1 e R s m args below meth c H1 locs 1 6 (rt_Z S Λ M none below args s) (F0 m (pc + 3) lj [.ref H.size])
    refine lv_dup C9.1 C9.2.1 d1 rfl ?_
    refine rt_ldcw C9.1 C9.2.1 C9.2.2.2.1 (C9.2.2.2.2.2.1.2.2.1 _ hq) d2 ?_
    intro T1 hT1 X1
    have htr : e.platform.stackTraces = false := Launch.traces_off r6.1 X1.admits
    have hn0 : S.2.1 ≤ H.size := hM.2.2
    obtain ⟨U, ce, st1, u1, u2, u3, u4, u5, u6, u7, u8⟩ := rt_throw X1 C9.1 htr C9.2.2.2.1 gd r6.2.1 r6.2.2 r7 (fun q0 hq0 => by rw [hT1, o1 q0 (by omega)]; exact hM.2.1 q0 hq0) hcX hkC (by rw [hT1]; exact e1) hsz hn0 (msg := .ref (S.2.2.2.2.1 q)) rfl (g := F0 m (pc + 7) lj [.ref (S.2.2.2.2.1 q), .ref H.size, .ref H.size]) rfl (by rw [C9.2.2.1]; exact hl.1) rfl rfl rfl (by rw [C9.2.1]; exact d3) (by rw [C9.2.1]; exact d4) (fun x hx => by
      have h0 : c.exceptionTable.size = 0 := by simpa [Array.isEmpty] using r5
      have h1 : c.exceptionTable.toList = [] := List.eq_nil_of_length_eq_zero (by simpa using h0)
      rw [h1] at hx
      cases hx) (by omega) (by show 2 * 0 + (1 + 0) + (13 * 3 + 42) ≤ R.locals; omega) C9.2.2.2.2.2.2.2
    have same : ∀ x : Nat, x < H.size → U.heap[x]? = H[x]? := fun x hx => by
      rw [u8 x (Nat.ne_of_lt hx), hT1]
      exact o1 x hx
    refine ⟨U, st1, .threw H.size, u1, u2, u3, ⟨locs, u4, hL⟩, ⟨fun b dd hb => ⟨(hM.1 b dd hb).1, (hM.1 b dd hb).2.kept (same _ (hM.1 b dd hb).2.lt)⟩, fun x hx => by rw [same x (by omega)]; exact hM.2.1 x hx, ?_⟩, H.size, ce, rfl, u5, u7, by rw [u6]; exact hcX⟩
    have := (Array.getElem?_eq_some_iff.mp u5).1
    omega
  exact key T hT X
end RTA
