/-! THE CLAIM OUT OF ONE WALK OF THE LAW'S BODY. Your part is whole_start (and what it stands on); all else here is the same for every law, but numbers. -/
def R_law : String := "PegLawsLaw"
def lw_P (b : Addr) (xs : List Int32) (args : Array Value) (s : State) : Prop := args = #[.ref b] ∧ s.IntsAt b xs ∧ xs.length ≤ 3584 ∧ (Jvm.Cond.and given_1 narrow_1).before args s = true
def lw_Q (_ : Array Value) (s : State) (o : Outcome) (t : State) : Prop := o = .returned (some (.int 1)) ∧ Framed s o t [] 601024 7293033
def lw_Z (below : List Frame) (a : Array Value) (s : State) : State → Prop := fun t => ∃ o, t.status = .running ∧ Ended t below o ∧ lw_Q a s o t
/-- the law's own end, with 1 on the stack, nothing written that was there before, its room as the claim has it -/
theorem lw_ret {p : Program} {l : Launch} {e : Env} {s : State} {m : MethodId} {below : List Frame} {meth : Method} {c : Code} {b : Nat} (hx : p.tables.exec = Jvm.exec) (hb : c.code = code) (hr : meth.sig.returnType = ret) (hlocks : meth.locks = false) {pc : Nat} {H : Heap} {ls : Array Slot} (hdg : decode code pc = .ok (.ireturn, 1)) : W p l e room_1 s m #[Value.ref b] below meth c H [] 601024 7293033 (lw_Z below #[Value.ref b] s) (F0 m pc ls [.int 1]) := by
  intro T hT X
  obtain ⟨fs, hret, hrun, hended, hW, hframe⟩ := X.leave (v := some (.int 1)) (hlocks := hlocks) (fun h => by rw [hr] at h; cases h)
  have hmeth' : T.vm.method? m = some meth := X.method'
  refine ⟨T.setFrames fs, ?_, .returned (some (.int 1)), hrun, hended, rfl, ⟨_, rfl⟩, hW, hframe⟩
  jvm_step X.here [X.here.top, hx, hb, hdg, hmeth', hr, ret, narrow_b1]
  (try refine ⟨rfl, ?_⟩); (try refine ⟨rfl, ?_⟩)
  first | (intro acts; rw [hret _ acts rfl rfl rfl]) | rw [hret _ _ rfl rfl rfl]
  exact Steps.refl _
/-- what holds at the law's entry: the machine, the code, the tables' words (any of lw_tbl by 'hts w (by decide +kernel)'), the script of L ints xs at the cell b, what the Statement gives of the start (any of its parts by flat_of_before) -/
def lw_At (p : Program) (s : State) (m : MethodId) (meth : Method) (c : Code) (b L : Nat) (xs : Nat → Int32) : Prop :=
  p.tables.exec = Jvm.exec ∧ c.code = code ∧ meth.sig.returnType = ret ∧ c.maxLocals = 7 ∧ s.vm.findClass R_law = some m.cls ∧ (∀ w ∈ lw_tbl, w.before #[Value.ref b] s = true) ∧ va_X b L xs s s.heap ∧ b < s.heap.size ∧ meth.locks = false ∧ (Jvm.Cond.and given_1 narrow_1).before #[Value.ref b] s = true
/-! THE LAW'S OWN FACE: b the script's cell, L its length, xs what it holds; k cells and sl slots made so far -/
abbrev lq_B : Type := Nat × Nat × (Nat → Int32) × Nat × Nat
def lq_At (S : pg_S) (Λ : pg_L) (Y : pg_Y) (d pc : Nat) (ls : List (Nat × Value)) (st : List Value) (M : pg_M) (P : lq_B) : Prop :=
  ∀ (p : Program) (e : Env) (s : State) (m : MethodId) (args : Array Value) (below : List Frame) (meth : Method) (c : Code) (H : Heap) (locs : List Loc) (R : Room) (lj : Array Slot),
    pg_C S Y p s m args meth c → (R = room_1 ∧ args = #[Value.ref P.1] ∧ va_X P.1 P.2.1 P.2.2.1 s s.heap ∧ P.1 < s.heap.size ∧ S.2.1 = s.heap.size ∧ S.2.2.2.2.2 = s.heap ∧ S.2.2.2.2.1 1300 = P.1 ∧ pn_AO s ∧ rt_C S s) → pg_R S Λ M H → (∀ q ∈ locs, S.2.1 ≤ q.base) → lv_has lj Y.2.2.1 (pg_ml S ls) →
    W p S.1 e R s m args below meth c H locs P.2.2.2.1 P.2.2.2.2 (lw_Z below args s) (F0 m pc lj (st.map (pg_up S)))
section LQI
variable {S : pg_S} {Λ : pg_L} {Y : pg_Y} {d pc : Nat} {ls ls' : List (Nat × Value)} {st : List Value} {M : pg_M} {P : lq_B}
theorem lq_drop {ks : List Nat} (h : lv_pick ls ks = ls') (k : lq_At S Λ Y d pc ls' st M P) : lq_At S Λ Y d pc ls st M P := by
  intro p e s m args below meth c H locs R lj C hR hM hL hl
  refine k p e s m args below meth c H locs R lj C hR hM hL (lv_sub hl ks ?_)
  subst h
  unfold lv_pick pg_ml
  rw [List.map_filterMap]
  congr 1
  funext j
  simp [List.getElem?_map]
theorem lq_iconst {n : Int} {v : Int32} (hdg : decode Y.2.1 pc = .ok (.iconst n, 1)) (hv : Int32.ofInt n = v) (k : lq_At S Λ Y d (pc + 1) ls (.int v :: st) M P) : lq_At S Λ Y d pc ls (st) M P :=
  fun p e s m args below meth c H locs R lj C hR hM hL hl => lv_iconst C.1 C.2.1 hdg hv (k p e s m args below meth c H locs R lj C hR hM hL hl)
theorem lq_bipush {n : Int} {v : Int32} (hdg : decode Y.2.1 pc = .ok (.bipush n, 2)) (hv : (Int8.ofInt n).toInt32 = v) (k : lq_At S Λ Y d (pc + 2) ls (.int v :: st) M P) : lq_At S Λ Y d pc ls (st) M P :=
  fun p e s m args below meth c H locs R lj C hR hM hL hl => lv_bipush C.1 C.2.1 hdg hv (k p e s m args below meth c H locs R lj C hR hM hL hl)
theorem lq_sipush {n : Int} {v : Int32} (hdg : decode Y.2.1 pc = .ok (.sipush n, 3)) (hv : (Int16.ofInt n).toInt32 = v) (k : lq_At S Λ Y d (pc + 3) ls (.int v :: st) M P) : lq_At S Λ Y d pc ls (st) M P :=
  fun p e s m args below meth c H locs R lj C hR hM hL hl => lv_sipush C.1 C.2.1 hdg hv (k p e s m args below meth c H locs R lj C hR hM hL hl)
theorem lq_lconst {n : Fin 2} {v : Int64} (hdg : decode Y.2.1 pc = .ok (.lconst n, 1)) (hv : Int64.ofNat (n : Nat) = v) (k : lq_At S Λ Y d (pc + 1) ls (.long v :: st) M P) : lq_At S Λ Y d pc ls (st) M P :=
  fun p e s m args below meth c H locs R lj C hR hM hL hl => lv_lconst C.1 C.2.1 hdg hv (k p e s m args below meth c H locs R lj C hR hM hL hl)
theorem lq_iadd {x y : Int32} (hdg : decode Y.2.1 pc = .ok (.iadd, 1)) (k : lq_At S Λ Y d (pc + 1) ls (.int (x + y) :: st) M P) : lq_At S Λ Y d pc ls (.int y :: .int x :: st) M P :=
  fun p e s m args below meth c H locs R lj C hR hM hL hl => lv_iadd C.1 C.2.1 hdg (k p e s m args below meth c H locs R lj C hR hM hL hl)
theorem lq_isub {x y : Int32} (hdg : decode Y.2.1 pc = .ok (.isub, 1)) (k : lq_At S Λ Y d (pc + 1) ls (.int (x - y) :: st) M P) : lq_At S Λ Y d pc ls (.int y :: .int x :: st) M P :=
  fun p e s m args below meth c H locs R lj C hR hM hL hl => lv_isub C.1 C.2.1 hdg (k p e s m args below meth c H locs R lj C hR hM hL hl)
theorem lq_imul {x y : Int32} (hdg : decode Y.2.1 pc = .ok (.imul, 1)) (k : lq_At S Λ Y d (pc + 1) ls (.int (x * y) :: st) M P) : lq_At S Λ Y d pc ls (.int y :: .int x :: st) M P :=
  fun p e s m args below meth c H locs R lj C hR hM hL hl => lv_imul C.1 C.2.1 hdg (k p e s m args below meth c H locs R lj C hR hM hL hl)
theorem lq_iand {x y : Int32} (hdg : decode Y.2.1 pc = .ok (.iand, 1)) (k : lq_At S Λ Y d (pc + 1) ls (.int (x &&& y) :: st) M P) : lq_At S Λ Y d pc ls (.int y :: .int x :: st) M P :=
  fun p e s m args below meth c H locs R lj C hR hM hL hl => lv_iand C.1 C.2.1 hdg (k p e s m args below meth c H locs R lj C hR hM hL hl)
theorem lq_ior {x y : Int32} (hdg : decode Y.2.1 pc = .ok (.ior, 1)) (k : lq_At S Λ Y d (pc + 1) ls (.int (x ||| y) :: st) M P) : lq_At S Λ Y d pc ls (.int y :: .int x :: st) M P :=
  fun p e s m args below meth c H locs R lj C hR hM hL hl => lv_ior C.1 C.2.1 hdg (k p e s m args below meth c H locs R lj C hR hM hL hl)
theorem lq_ixor {x y : Int32} (hdg : decode Y.2.1 pc = .ok (.ixor, 1)) (k : lq_At S Λ Y d (pc + 1) ls (.int (x ^^^ y) :: st) M P) : lq_At S Λ Y d pc ls (.int y :: .int x :: st) M P :=
  fun p e s m args below meth c H locs R lj C hR hM hL hl => lv_ixor C.1 C.2.1 hdg (k p e s m args below meth c H locs R lj C hR hM hL hl)
theorem lq_idiv {x y : Int32} (hdg : decode Y.2.1 pc = .ok (.idiv, 1)) (hne : ¬ y = 0) (k : lq_At S Λ Y d (pc + 1) ls (.int (x / y) :: st) M P) : lq_At S Λ Y d pc ls (.int y :: .int x :: st) M P :=
  fun p e s m args below meth c H locs R lj C hR hM hL hl => lv_idiv C.1 C.2.1 hdg hne (k p e s m args below meth c H locs R lj C hR hM hL hl)
theorem lq_irem {x y : Int32} (hdg : decode Y.2.1 pc = .ok (.irem, 1)) (hne : ¬ y = 0) (k : lq_At S Λ Y d (pc + 1) ls (.int (x - x / y * y) :: st) M P) : lq_At S Λ Y d pc ls (.int y :: .int x :: st) M P :=
  fun p e s m args below meth c H locs R lj C hR hM hL hl => lv_irem C.1 C.2.1 hdg hne (k p e s m args below meth c H locs R lj C hR hM hL hl)
theorem lq_ineg {x : Int32} (hdg : decode Y.2.1 pc = .ok (.ineg, 1)) (k : lq_At S Λ Y d (pc + 1) ls (.int (-x) :: st) M P) : lq_At S Λ Y d pc ls (.int x :: st) M P :=
  fun p e s m args below meth c H locs R lj C hR hM hL hl => lv_ineg C.1 C.2.1 hdg (k p e s m args below meth c H locs R lj C hR hM hL hl)
theorem lq_ladd {x y : Int64} (hdg : decode Y.2.1 pc = .ok (.ladd, 1)) (k : lq_At S Λ Y d (pc + 1) ls (.long (x + y) :: st) M P) : lq_At S Λ Y d pc ls (.long y :: .long x :: st) M P :=
  fun p e s m args below meth c H locs R lj C hR hM hL hl => lv_ladd C.1 C.2.1 hdg (k p e s m args below meth c H locs R lj C hR hM hL hl)
theorem lq_lsub {x y : Int64} (hdg : decode Y.2.1 pc = .ok (.lsub, 1)) (k : lq_At S Λ Y d (pc + 1) ls (.long (x - y) :: st) M P) : lq_At S Λ Y d pc ls (.long y :: .long x :: st) M P :=
  fun p e s m args below meth c H locs R lj C hR hM hL hl => lv_lsub C.1 C.2.1 hdg (k p e s m args below meth c H locs R lj C hR hM hL hl)
theorem lq_lmul {x y : Int64} (hdg : decode Y.2.1 pc = .ok (.lmul, 1)) (k : lq_At S Λ Y d (pc + 1) ls (.long (x * y) :: st) M P) : lq_At S Λ Y d pc ls (.long y :: .long x :: st) M P :=
  fun p e s m args below meth c H locs R lj C hR hM hL hl => lv_lmul C.1 C.2.1 hdg (k p e s m args below meth c H locs R lj C hR hM hL hl)
theorem lq_land {x y : Int64} (hdg : decode Y.2.1 pc = .ok (.land, 1)) (k : lq_At S Λ Y d (pc + 1) ls (.long (x &&& y) :: st) M P) : lq_At S Λ Y d pc ls (.long y :: .long x :: st) M P :=
  fun p e s m args below meth c H locs R lj C hR hM hL hl => lv_land C.1 C.2.1 hdg (k p e s m args below meth c H locs R lj C hR hM hL hl)
theorem lq_lor {x y : Int64} (hdg : decode Y.2.1 pc = .ok (.lor, 1)) (k : lq_At S Λ Y d (pc + 1) ls (.long (x ||| y) :: st) M P) : lq_At S Λ Y d pc ls (.long y :: .long x :: st) M P :=
  fun p e s m args below meth c H locs R lj C hR hM hL hl => lv_lor C.1 C.2.1 hdg (k p e s m args below meth c H locs R lj C hR hM hL hl)
theorem lq_lxor {x y : Int64} (hdg : decode Y.2.1 pc = .ok (.lxor, 1)) (k : lq_At S Λ Y d (pc + 1) ls (.long (x ^^^ y) :: st) M P) : lq_At S Λ Y d pc ls (.long y :: .long x :: st) M P :=
  fun p e s m args below meth c H locs R lj C hR hM hL hl => lv_lxor C.1 C.2.1 hdg (k p e s m args below meth c H locs R lj C hR hM hL hl)
theorem lq_ldiv {x y : Int64} (hdg : decode Y.2.1 pc = .ok (.ldiv, 1)) (hne : ¬ y = 0) (k : lq_At S Λ Y d (pc + 1) ls (.long (x / y) :: st) M P) : lq_At S Λ Y d pc ls (.long y :: .long x :: st) M P :=
  fun p e s m args below meth c H locs R lj C hR hM hL hl => lv_ldiv C.1 C.2.1 hdg hne (k p e s m args below meth c H locs R lj C hR hM hL hl)
theorem lq_lrem {x y : Int64} (hdg : decode Y.2.1 pc = .ok (.lrem, 1)) (hne : ¬ y = 0) (k : lq_At S Λ Y d (pc + 1) ls (.long (x - x / y * y) :: st) M P) : lq_At S Λ Y d pc ls (.long y :: .long x :: st) M P :=
  fun p e s m args below meth c H locs R lj C hR hM hL hl => lv_lrem C.1 C.2.1 hdg hne (k p e s m args below meth c H locs R lj C hR hM hL hl)
theorem lq_lneg {x : Int64} (hdg : decode Y.2.1 pc = .ok (.lneg, 1)) (k : lq_At S Λ Y d (pc + 1) ls (.long (-x) :: st) M P) : lq_At S Λ Y d pc ls (.long x :: st) M P :=
  fun p e s m args below meth c H locs R lj C hR hM hL hl => lv_lneg C.1 C.2.1 hdg (k p e s m args below meth c H locs R lj C hR hM hL hl)
theorem lq_ishl {x y : Int32} (hdg : decode Y.2.1 pc = .ok (.ishl, 1)) (k : lq_At S Λ Y d (pc + 1) ls (.int (x <<< (y &&& 31)) :: st) M P) : lq_At S Λ Y d pc ls (.int y :: .int x :: st) M P :=
  fun p e s m args below meth c H locs R lj C hR hM hL hl => lv_ishl C.1 C.2.1 hdg (k p e s m args below meth c H locs R lj C hR hM hL hl)
theorem lq_ishr {x y : Int32} (hdg : decode Y.2.1 pc = .ok (.ishr, 1)) (k : lq_At S Λ Y d (pc + 1) ls (.int (x >>> (y &&& 31)) :: st) M P) : lq_At S Λ Y d pc ls (.int y :: .int x :: st) M P :=
  fun p e s m args below meth c H locs R lj C hR hM hL hl => lv_ishr C.1 C.2.1 hdg (k p e s m args below meth c H locs R lj C hR hM hL hl)
theorem lq_iushr {x y v : Int32} (hdg : decode Y.2.1 pc = .ok (.iushr, 1)) (hv : (x.toUInt32 >>> (y.toUInt32 &&& Int32.toUInt32 31)).toInt32 = v) (k : lq_At S Λ Y d (pc + 1) ls (.int v :: st) M P) : lq_At S Λ Y d pc ls (.int y :: .int x :: st) M P :=
  fun p e s m args below meth c H locs R lj C hR hM hL hl => lv_iushr C.1 C.2.1 hdg hv (k p e s m args below meth c H locs R lj C hR hM hL hl)
theorem lq_lshl {x v : Int64} {y : Int32} (hdg : decode Y.2.1 pc = .ok (.lshl, 1)) (hv : x <<< (y.toInt64 &&& 63) = v) (k : lq_At S Λ Y d (pc + 1) ls (.long v :: st) M P) : lq_At S Λ Y d pc ls (.int y :: .long x :: st) M P :=
  fun p e s m args below meth c H locs R lj C hR hM hL hl => lv_lshl C.1 C.2.1 hdg hv (k p e s m args below meth c H locs R lj C hR hM hL hl)
theorem lq_lshr {x v : Int64} {y : Int32} (hdg : decode Y.2.1 pc = .ok (.lshr, 1)) (hv : x >>> (y.toInt64 &&& 63) = v) (k : lq_At S Λ Y d (pc + 1) ls (.long v :: st) M P) : lq_At S Λ Y d pc ls (.int y :: .long x :: st) M P :=
  fun p e s m args below meth c H locs R lj C hR hM hL hl => lv_lshr C.1 C.2.1 hdg hv (k p e s m args below meth c H locs R lj C hR hM hL hl)
theorem lq_lushr {x v : Int64} {y : Int32} (hdg : decode Y.2.1 pc = .ok (.lushr, 1)) (hv : (x.toUInt64 >>> (y.toInt64.toUInt64 &&& Int64.toUInt64 63)).toInt64 = v) (k : lq_At S Λ Y d (pc + 1) ls (.long v :: st) M P) : lq_At S Λ Y d pc ls (.int y :: .long x :: st) M P :=
  fun p e s m args below meth c H locs R lj C hR hM hL hl => lv_lushr C.1 C.2.1 hdg hv (k p e s m args below meth c H locs R lj C hR hM hL hl)
theorem lq_i2l {x : Int32} {v : Int64} (hdg : decode Y.2.1 pc = .ok (.i2l, 1)) (hv : x.toInt64 = v) (k : lq_At S Λ Y d (pc + 1) ls (.long v :: st) M P) : lq_At S Λ Y d pc ls (.int x :: st) M P :=
  fun p e s m args below meth c H locs R lj C hR hM hL hl => lv_i2l C.1 C.2.1 hdg hv (k p e s m args below meth c H locs R lj C hR hM hL hl)
theorem lq_l2i {x : Int64} {v : Int32} (hdg : decode Y.2.1 pc = .ok (.l2i, 1)) (hv : x.toInt32 = v) (k : lq_At S Λ Y d (pc + 1) ls (.int v :: st) M P) : lq_At S Λ Y d pc ls (.long x :: st) M P :=
  fun p e s m args below meth c H locs R lj C hR hM hL hl => lv_l2i C.1 C.2.1 hdg hv (k p e s m args below meth c H locs R lj C hR hM hL hl)
theorem lq_i2b {x : Int32} {v : Int32} (hdg : decode Y.2.1 pc = .ok (.i2b, 1)) (hv : x.toInt8.toInt32 = v) (k : lq_At S Λ Y d (pc + 1) ls (.int v :: st) M P) : lq_At S Λ Y d pc ls (.int x :: st) M P :=
  fun p e s m args below meth c H locs R lj C hR hM hL hl => lv_i2b C.1 C.2.1 hdg hv (k p e s m args below meth c H locs R lj C hR hM hL hl)
theorem lq_i2s {x : Int32} {v : Int32} (hdg : decode Y.2.1 pc = .ok (.i2s, 1)) (hv : x.toInt16.toInt32 = v) (k : lq_At S Λ Y d (pc + 1) ls (.int v :: st) M P) : lq_At S Λ Y d pc ls (.int x :: st) M P :=
  fun p e s m args below meth c H locs R lj C hR hM hL hl => lv_i2s C.1 C.2.1 hdg hv (k p e s m args below meth c H locs R lj C hR hM hL hl)
theorem lq_i2c {x : Int32} {v : Int32} (hdg : decode Y.2.1 pc = .ok (.i2c, 1)) (hv : (x.toUInt32 % 65536).toInt32 = v) (k : lq_At S Λ Y d (pc + 1) ls (.int v :: st) M P) : lq_At S Λ Y d pc ls (.int x :: st) M P :=
  fun p e s m args below meth c H locs R lj C hR hM hL hl => lv_i2c C.1 C.2.1 hdg hv (k p e s m args below meth c H locs R lj C hR hM hL hl)
theorem lq_dup {va : Value} (hdg : decode Y.2.1 pc = .ok (.dup, 1)) (hva : va.category = 1) (k : lq_At S Λ Y d (pc + 1) ls (va :: va :: st) M P) : lq_At S Λ Y d pc ls (va :: st) M P :=
  fun p e s m args below meth c H locs R lj C hR hM hL hl => lv_dup C.1 C.2.1 hdg (by rw [pg_up_cat]; exact hva) (k p e s m args below meth c H locs R lj C hR hM hL hl)
theorem lq_pop {va : Value} (hdg : decode Y.2.1 pc = .ok (.pop, 1)) (hva : va.category = 1) (k : lq_At S Λ Y d (pc + 1) ls (st) M P) : lq_At S Λ Y d pc ls (va :: st) M P :=
  fun p e s m args below meth c H locs R lj C hR hM hL hl => lv_pop C.1 C.2.1 hdg (by rw [pg_up_cat]; exact hva) (k p e s m args below meth c H locs R lj C hR hM hL hl)
theorem lq_dup_x1 {va vb : Value} (hdg : decode Y.2.1 pc = .ok (.dup_x1, 1)) (hva : va.category = 1) (hvb : vb.category = 1) (k : lq_At S Λ Y d (pc + 1) ls (va :: vb :: va :: st) M P) : lq_At S Λ Y d pc ls (va :: vb :: st) M P :=
  fun p e s m args below meth c H locs R lj C hR hM hL hl => lv_dup_x1 C.1 C.2.1 hdg (by rw [pg_up_cat]; exact hva) (by rw [pg_up_cat]; exact hvb) (k p e s m args below meth c H locs R lj C hR hM hL hl)
theorem lq_dup_x2 {va vb vd : Value} (hdg : decode Y.2.1 pc = .ok (.dup_x2, 1)) (hva : va.category = 1) (hvb : vb.category = 1) (hvd : vd.category = 1) (k : lq_At S Λ Y d (pc + 1) ls (va :: vb :: vd :: va :: st) M P) : lq_At S Λ Y d pc ls (va :: vb :: vd :: st) M P :=
  fun p e s m args below meth c H locs R lj C hR hM hL hl => lv_dup_x2 C.1 C.2.1 hdg (by rw [pg_up_cat]; exact hva) (by rw [pg_up_cat]; exact hvb) (by rw [pg_up_cat]; exact hvd) (k p e s m args below meth c H locs R lj C hR hM hL hl)
theorem lq_dup2_11 {va vb : Value} (hdg : decode Y.2.1 pc = .ok (.dup2, 1)) (hva : va.category = 1) (hvb : vb.category = 1) (k : lq_At S Λ Y d (pc + 1) ls (va :: vb :: va :: vb :: st) M P) : lq_At S Λ Y d pc ls (va :: vb :: st) M P :=
  fun p e s m args below meth c H locs R lj C hR hM hL hl => lv_dup2_11 C.1 C.2.1 hdg (by rw [pg_up_cat]; exact hva) (by rw [pg_up_cat]; exact hvb) (k p e s m args below meth c H locs R lj C hR hM hL hl)
theorem lq_dup2_2 {va : Value} (hdg : decode Y.2.1 pc = .ok (.dup2, 1)) (hva : va.category = 2) (k : lq_At S Λ Y d (pc + 1) ls (va :: va :: st) M P) : lq_At S Λ Y d pc ls (va :: st) M P :=
  fun p e s m args below meth c H locs R lj C hR hM hL hl => lv_dup2_2 C.1 C.2.1 hdg (by rw [pg_up_cat]; exact hva) (k p e s m args below meth c H locs R lj C hR hM hL hl)
theorem lq_pop2_2 {va : Value} (hdg : decode Y.2.1 pc = .ok (.pop2, 1)) (hva : va.category = 2) (k : lq_At S Λ Y d (pc + 1) ls (st) M P) : lq_At S Λ Y d pc ls (va :: st) M P :=
  fun p e s m args below meth c H locs R lj C hR hM hL hl => lv_pop2_2 C.1 C.2.1 hdg (by rw [pg_up_cat]; exact hva) (k p e s m args below meth c H locs R lj C hR hM hL hl)
theorem lq_if_eq {x : Int32} {off : Int} {tgt : Nat} (hdg : decode Y.2.1 pc = .ok (.ifCond .eq off, 3)) (ht : (pc : Int) + off = (tgt : Int)) (kt : x = 0 → lq_At S Λ Y d tgt ls st M P) (kf : ¬ x = 0 → lq_At S Λ Y d (pc + 3) ls st M P) : lq_At S Λ Y d pc ls (.int x :: st) M P :=
  fun p e s m args below meth c H locs R lj C hR hM hL hl => lv_if_eq C.1 C.2.1 hdg ht (fun h9 => kt h9 p e s m args below meth c H locs R lj C hR hM hL hl) (fun h9 => kf h9 p e s m args below meth c H locs R lj C hR hM hL hl)
theorem lq_icmp_eq {x y : Int32} {off : Int} {tgt : Nat} (hdg : decode Y.2.1 pc = .ok (.if_icmp .eq off, 3)) (ht : (pc : Int) + off = (tgt : Int)) (kt : x = y → lq_At S Λ Y d tgt ls st M P) (kf : ¬ x = y → lq_At S Λ Y d (pc + 3) ls st M P) : lq_At S Λ Y d pc ls (.int y :: .int x :: st) M P :=
  fun p e s m args below meth c H locs R lj C hR hM hL hl => lv_icmp_eq C.1 C.2.1 hdg ht (fun h9 => kt h9 p e s m args below meth c H locs R lj C hR hM hL hl) (fun h9 => kf h9 p e s m args below meth c H locs R lj C hR hM hL hl)
theorem lq_if_ne {x : Int32} {off : Int} {tgt : Nat} (hdg : decode Y.2.1 pc = .ok (.ifCond .ne off, 3)) (ht : (pc : Int) + off = (tgt : Int)) (kt : ¬ x = 0 → lq_At S Λ Y d tgt ls st M P) (kf : x = 0 → lq_At S Λ Y d (pc + 3) ls st M P) : lq_At S Λ Y d pc ls (.int x :: st) M P :=
  fun p e s m args below meth c H locs R lj C hR hM hL hl => lv_if_ne C.1 C.2.1 hdg ht (fun h9 => kt h9 p e s m args below meth c H locs R lj C hR hM hL hl) (fun h9 => kf h9 p e s m args below meth c H locs R lj C hR hM hL hl)
theorem lq_icmp_ne {x y : Int32} {off : Int} {tgt : Nat} (hdg : decode Y.2.1 pc = .ok (.if_icmp .ne off, 3)) (ht : (pc : Int) + off = (tgt : Int)) (kt : ¬ x = y → lq_At S Λ Y d tgt ls st M P) (kf : x = y → lq_At S Λ Y d (pc + 3) ls st M P) : lq_At S Λ Y d pc ls (.int y :: .int x :: st) M P :=
  fun p e s m args below meth c H locs R lj C hR hM hL hl => lv_icmp_ne C.1 C.2.1 hdg ht (fun h9 => kt h9 p e s m args below meth c H locs R lj C hR hM hL hl) (fun h9 => kf h9 p e s m args below meth c H locs R lj C hR hM hL hl)
theorem lq_if_lt {x : Int32} {off : Int} {tgt : Nat} (hdg : decode Y.2.1 pc = .ok (.ifCond .lt off, 3)) (ht : (pc : Int) + off = (tgt : Int)) (kt : x < 0 → lq_At S Λ Y d tgt ls st M P) (kf : ¬ x < 0 → lq_At S Λ Y d (pc + 3) ls st M P) : lq_At S Λ Y d pc ls (.int x :: st) M P :=
  fun p e s m args below meth c H locs R lj C hR hM hL hl => lv_if_lt C.1 C.2.1 hdg ht (fun h9 => kt h9 p e s m args below meth c H locs R lj C hR hM hL hl) (fun h9 => kf h9 p e s m args below meth c H locs R lj C hR hM hL hl)
theorem lq_icmp_lt {x y : Int32} {off : Int} {tgt : Nat} (hdg : decode Y.2.1 pc = .ok (.if_icmp .lt off, 3)) (ht : (pc : Int) + off = (tgt : Int)) (kt : x < y → lq_At S Λ Y d tgt ls st M P) (kf : ¬ x < y → lq_At S Λ Y d (pc + 3) ls st M P) : lq_At S Λ Y d pc ls (.int y :: .int x :: st) M P :=
  fun p e s m args below meth c H locs R lj C hR hM hL hl => lv_icmp_lt C.1 C.2.1 hdg ht (fun h9 => kt h9 p e s m args below meth c H locs R lj C hR hM hL hl) (fun h9 => kf h9 p e s m args below meth c H locs R lj C hR hM hL hl)
theorem lq_if_ge {x : Int32} {off : Int} {tgt : Nat} (hdg : decode Y.2.1 pc = .ok (.ifCond .ge off, 3)) (ht : (pc : Int) + off = (tgt : Int)) (kt : 0 ≤ x → lq_At S Λ Y d tgt ls st M P) (kf : ¬ 0 ≤ x → lq_At S Λ Y d (pc + 3) ls st M P) : lq_At S Λ Y d pc ls (.int x :: st) M P :=
  fun p e s m args below meth c H locs R lj C hR hM hL hl => lv_if_ge C.1 C.2.1 hdg ht (fun h9 => kt h9 p e s m args below meth c H locs R lj C hR hM hL hl) (fun h9 => kf h9 p e s m args below meth c H locs R lj C hR hM hL hl)
theorem lq_icmp_ge {x y : Int32} {off : Int} {tgt : Nat} (hdg : decode Y.2.1 pc = .ok (.if_icmp .ge off, 3)) (ht : (pc : Int) + off = (tgt : Int)) (kt : y ≤ x → lq_At S Λ Y d tgt ls st M P) (kf : ¬ y ≤ x → lq_At S Λ Y d (pc + 3) ls st M P) : lq_At S Λ Y d pc ls (.int y :: .int x :: st) M P :=
  fun p e s m args below meth c H locs R lj C hR hM hL hl => lv_icmp_ge C.1 C.2.1 hdg ht (fun h9 => kt h9 p e s m args below meth c H locs R lj C hR hM hL hl) (fun h9 => kf h9 p e s m args below meth c H locs R lj C hR hM hL hl)
theorem lq_if_gt {x : Int32} {off : Int} {tgt : Nat} (hdg : decode Y.2.1 pc = .ok (.ifCond .gt off, 3)) (ht : (pc : Int) + off = (tgt : Int)) (kt : 0 < x → lq_At S Λ Y d tgt ls st M P) (kf : ¬ 0 < x → lq_At S Λ Y d (pc + 3) ls st M P) : lq_At S Λ Y d pc ls (.int x :: st) M P :=
  fun p e s m args below meth c H locs R lj C hR hM hL hl => lv_if_gt C.1 C.2.1 hdg ht (fun h9 => kt h9 p e s m args below meth c H locs R lj C hR hM hL hl) (fun h9 => kf h9 p e s m args below meth c H locs R lj C hR hM hL hl)
theorem lq_icmp_gt {x y : Int32} {off : Int} {tgt : Nat} (hdg : decode Y.2.1 pc = .ok (.if_icmp .gt off, 3)) (ht : (pc : Int) + off = (tgt : Int)) (kt : y < x → lq_At S Λ Y d tgt ls st M P) (kf : ¬ y < x → lq_At S Λ Y d (pc + 3) ls st M P) : lq_At S Λ Y d pc ls (.int y :: .int x :: st) M P :=
  fun p e s m args below meth c H locs R lj C hR hM hL hl => lv_icmp_gt C.1 C.2.1 hdg ht (fun h9 => kt h9 p e s m args below meth c H locs R lj C hR hM hL hl) (fun h9 => kf h9 p e s m args below meth c H locs R lj C hR hM hL hl)
theorem lq_if_le {x : Int32} {off : Int} {tgt : Nat} (hdg : decode Y.2.1 pc = .ok (.ifCond .le off, 3)) (ht : (pc : Int) + off = (tgt : Int)) (kt : x ≤ 0 → lq_At S Λ Y d tgt ls st M P) (kf : ¬ x ≤ 0 → lq_At S Λ Y d (pc + 3) ls st M P) : lq_At S Λ Y d pc ls (.int x :: st) M P :=
  fun p e s m args below meth c H locs R lj C hR hM hL hl => lv_if_le C.1 C.2.1 hdg ht (fun h9 => kt h9 p e s m args below meth c H locs R lj C hR hM hL hl) (fun h9 => kf h9 p e s m args below meth c H locs R lj C hR hM hL hl)
theorem lq_icmp_le {x y : Int32} {off : Int} {tgt : Nat} (hdg : decode Y.2.1 pc = .ok (.if_icmp .le off, 3)) (ht : (pc : Int) + off = (tgt : Int)) (kt : x ≤ y → lq_At S Λ Y d tgt ls st M P) (kf : ¬ x ≤ y → lq_At S Λ Y d (pc + 3) ls st M P) : lq_At S Λ Y d pc ls (.int y :: .int x :: st) M P :=
  fun p e s m args below meth c H locs R lj C hR hM hL hl => lv_icmp_le C.1 C.2.1 hdg ht (fun h9 => kt h9 p e s m args below meth c H locs R lj C hR hM hL hl) (fun h9 => kf h9 p e s m args below meth c H locs R lj C hR hM hL hl)
theorem lq_goto {off : Int} {tgt : Nat} (hdg : decode Y.2.1 pc = .ok (.goto off, 3)) (ht : (pc : Int) + off = (tgt : Int)) (k : lq_At S Λ Y d tgt ls st M P) : lq_At S Λ Y d pc ls st M P :=
  fun p e s m args below meth c H locs R lj C hR hM hL hl => lv_goto C.1 C.2.1 hdg ht (k p e s m args below meth c H locs R lj C hR hM hL hl)
theorem lq_tableOut {dflt lo hi : Int} {offs : Array Int} {len : Nat} {x : Int32} {tgt : Nat} (hdg : decode Y.2.1 pc = .ok (.tableswitch dflt lo hi offs, len)) (h : x.toInt < lo ∨ hi < x.toInt) (ht : (pc : Int) + dflt = (tgt : Int)) (k : lq_At S Λ Y d tgt ls st M P) : lq_At S Λ Y d pc ls (.int x :: st) M P :=
  fun p e s m args below meth c H locs R lj C hR hM hL hl => lv_tableOut C.1 C.2.1 hdg h ht (k p e s m args below meth c H locs R lj C hR hM hL hl)
theorem lq_tableIn {dflt lo hi : Int} {offs : Array Int} {len : Nat} {x : Int32} {off : Int} {tgt : Nat} (hdg : decode Y.2.1 pc = .ok (.tableswitch dflt lo hi offs, len)) (h1 : ¬ x.toInt < lo) (h2 : ¬ hi < x.toInt) (ho : offs[(x.toInt - lo).toNat]? = some off) (ht : (pc : Int) + off = (tgt : Int)) (k : lq_At S Λ Y d tgt ls st M P) : lq_At S Λ Y d pc ls (.int x :: st) M P :=
  fun p e s m args below meth c H locs R lj C hR hM hL hl => lv_tableIn C.1 C.2.1 hdg h1 h2 ho ht (k p e s m args below meth c H locs R lj C hR hM hL hl)
theorem lq_lookup {dflt : Int} {ps : Array (Int × Int)} {len : Nat} {x : Int32} {off : Int} {tgt : Nat} (hdg : decode Y.2.1 pc = .ok (.lookupswitch dflt ps, len)) (hp : (ps.toList.zip (ps.toList.drop 1)).all (fun (a, next) => a.1 < next.1) = true) (ho : Op.lookupswitch.offset ps.toList dflt x.toInt = off) (ht : (pc : Int) + off = (tgt : Int)) (k : lq_At S Λ Y d tgt ls st M P) : lq_At S Λ Y d pc ls (.int x :: st) M P :=
  fun p e s m args below meth c H locs R lj C hR hM hL hl => lv_lookup C.1 C.2.1 hdg hp ho ht (k p e s m args below meth c H locs R lj C hR hM hL hl)
theorem lq_lcmp {x y : Int64} (hdg : decode Y.2.1 pc = .ok (.lcmp, 1)) (k : lq_At S Λ Y d (pc + 1) ls (.int (lg_cmp x y) :: st) M P) : lq_At S Λ Y d pc ls (.long y :: .long x :: st) M P :=
  fun p e s m args below meth c H locs R lj C hR hM hL hl => W.lcmp C.1 C.2.1 hdg (k p e s m args below meth c H locs R lj C hR hM hL hl)
theorem lq_iload_n {k : Fin 4} {i j : Nat} {x : Int32} (hdg : decode Y.2.1 pc = .ok (.iload_n k, 1)) (hi : (k : Nat) = i) (hj : ls[j]? = some (i, .int x)) (kk : lq_At S Λ Y d (pc + 1) ls (.int x :: st) M P) : lq_At S Λ Y d pc ls st M P :=
  fun p e s m args below meth c H locs R lj C hR hM hL hl => lv_iload_n C.1 C.2.1 hdg hi (pg_loc (v := .int x) hl hj) (kk p e s m args below meth c H locs R lj C hR hM hL hl)
theorem lq_iload {i j : Nat} {x : Int32} (hdg : decode Y.2.1 pc = .ok (.iload i, 2)) (hj : ls[j]? = some (i, .int x)) (kk : lq_At S Λ Y d (pc + 2) ls (.int x :: st) M P) : lq_At S Λ Y d pc ls st M P :=
  fun p e s m args below meth c H locs R lj C hR hM hL hl => lv_iload C.1 C.2.1 hdg (pg_loc (v := .int x) hl hj) (kk p e s m args below meth c H locs R lj C hR hM hL hl)
theorem lq_istore_n {k : Fin 4} {i : Nat} {x : Int32} (hdg : decode Y.2.1 pc = .ok (.istore_n k, 1)) (hi : (k : Nat) = i) (hn : i < Y.2.2.1) (hls : (i, Value.int x) :: ls.filter (fun q => !(q.1 == i) && !(q.1 + 1 == i && q.2.category == 2)) = ls') (kk : lq_At S Λ Y d (pc + 1) ls' st M P) : lq_At S Λ Y d pc ls (.int x :: st) M P :=
  fun p e s m args below meth c H locs R lj C hR hM hL hl => lv_istore_n C.1 C.2.1 hdg hi hl hn rfl (fun lj' hl' => kk p e s m args below meth c H locs R lj' C hR hM hL (by rw [pg_f1] at hl'; rw [← hls]; exact hl'))
theorem lq_istore {i : Nat} {x : Int32} (hdg : decode Y.2.1 pc = .ok (.istore i, 2)) (hn : i < Y.2.2.1) (hls : (i, Value.int x) :: ls.filter (fun q => !(q.1 == i) && !(q.1 + 1 == i && q.2.category == 2)) = ls') (kk : lq_At S Λ Y d (pc + 2) ls' st M P) : lq_At S Λ Y d pc ls (.int x :: st) M P :=
  fun p e s m args below meth c H locs R lj C hR hM hL hl => lv_istore C.1 C.2.1 hdg hl hn rfl (fun lj' hl' => kk p e s m args below meth c H locs R lj' C hR hM hL (by rw [pg_f1] at hl'; rw [← hls]; exact hl'))
theorem lq_lload_n {k : Fin 4} {i j : Nat} {x : Int64} (hdg : decode Y.2.1 pc = .ok (.lload_n k, 1)) (hi : (k : Nat) = i) (hj : ls[j]? = some (i, .long x)) (kk : lq_At S Λ Y d (pc + 1) ls (.long x :: st) M P) : lq_At S Λ Y d pc ls st M P :=
  fun p e s m args below meth c H locs R lj C hR hM hL hl => lv_lload_n C.1 C.2.1 hdg hi (pg_loc (v := .long x) hl hj) (kk p e s m args below meth c H locs R lj C hR hM hL hl)
theorem lq_lload {i j : Nat} {x : Int64} (hdg : decode Y.2.1 pc = .ok (.lload i, 2)) (hj : ls[j]? = some (i, .long x)) (kk : lq_At S Λ Y d (pc + 2) ls (.long x :: st) M P) : lq_At S Λ Y d pc ls st M P :=
  fun p e s m args below meth c H locs R lj C hR hM hL hl => lv_lload C.1 C.2.1 hdg (pg_loc (v := .long x) hl hj) (kk p e s m args below meth c H locs R lj C hR hM hL hl)
theorem lq_lstore_n {k : Fin 4} {i : Nat} {x : Int64} (hdg : decode Y.2.1 pc = .ok (.lstore_n k, 1)) (hi : (k : Nat) = i) (hn : i + 1 < Y.2.2.1) (hls : (i, Value.long x) :: ls.filter (fun q => !(q.1 == i) && (!(q.1 == i + 1) && !(q.1 + 1 == i && q.2.category == 2))) = ls') (kk : lq_At S Λ Y d (pc + 1) ls' st M P) : lq_At S Λ Y d pc ls (.long x :: st) M P :=
  fun p e s m args below meth c H locs R lj C hR hM hL hl => lv_lstore_n C.1 C.2.1 hdg hi hl hn rfl (fun lj' hl' => kk p e s m args below meth c H locs R lj' C hR hM hL (by rw [pg_f2] at hl'; rw [← hls]; exact hl'))
theorem lq_lstore {i : Nat} {x : Int64} (hdg : decode Y.2.1 pc = .ok (.lstore i, 2)) (hn : i + 1 < Y.2.2.1) (hls : (i, Value.long x) :: ls.filter (fun q => !(q.1 == i) && (!(q.1 == i + 1) && !(q.1 + 1 == i && q.2.category == 2))) = ls') (kk : lq_At S Λ Y d (pc + 2) ls' st M P) : lq_At S Λ Y d pc ls (.long x :: st) M P :=
  fun p e s m args below meth c H locs R lj C hR hM hL hl => lv_lstore C.1 C.2.1 hdg hl hn rfl (fun lj' hl' => kk p e s m args below meth c H locs R lj' C hR hM hL (by rw [pg_f2] at hl'; rw [← hls]; exact hl'))
theorem lq_aload_n {k : Fin 4} {i j : Nat} {x : Nat} (hdg : decode Y.2.1 pc = .ok (.aload_n k, 1)) (hi : (k : Nat) = i) (hj : ls[j]? = some (i, .ref x)) (kk : lq_At S Λ Y d (pc + 1) ls (.ref x :: st) M P) : lq_At S Λ Y d pc ls st M P :=
  fun p e s m args below meth c H locs R lj C hR hM hL hl => lv_aload_n C.1 C.2.1 hdg hi (pg_loc (v := .ref x) hl hj) (kk p e s m args below meth c H locs R lj C hR hM hL hl)
theorem lq_aload {i j : Nat} {x : Nat} (hdg : decode Y.2.1 pc = .ok (.aload i, 2)) (hj : ls[j]? = some (i, .ref x)) (kk : lq_At S Λ Y d (pc + 2) ls (.ref x :: st) M P) : lq_At S Λ Y d pc ls st M P :=
  fun p e s m args below meth c H locs R lj C hR hM hL hl => lv_aload C.1 C.2.1 hdg (pg_loc (v := .ref x) hl hj) (kk p e s m args below meth c H locs R lj C hR hM hL hl)
theorem lq_astore_n {k : Fin 4} {i : Nat} {x : Nat} (hdg : decode Y.2.1 pc = .ok (.astore_n k, 1)) (hi : (k : Nat) = i) (hn : i < Y.2.2.1) (hls : (i, Value.ref x) :: ls.filter (fun q => !(q.1 == i) && !(q.1 + 1 == i && q.2.category == 2)) = ls') (kk : lq_At S Λ Y d (pc + 1) ls' st M P) : lq_At S Λ Y d pc ls (.ref x :: st) M P :=
  fun p e s m args below meth c H locs R lj C hR hM hL hl => lv_astore_n C.1 C.2.1 hdg hi hl hn rfl (fun lj' hl' => kk p e s m args below meth c H locs R lj' C hR hM hL (by rw [pg_f1] at hl'; rw [← hls]; exact hl'))
theorem lq_astore {i : Nat} {x : Nat} (hdg : decode Y.2.1 pc = .ok (.astore i, 2)) (hn : i < Y.2.2.1) (hls : (i, Value.ref x) :: ls.filter (fun q => !(q.1 == i) && !(q.1 + 1 == i && q.2.category == 2)) = ls') (kk : lq_At S Λ Y d (pc + 2) ls' st M P) : lq_At S Λ Y d pc ls (.ref x :: st) M P :=
  fun p e s m args below meth c H locs R lj C hR hM hL hl => lv_astore C.1 C.2.1 hdg hl hn rfl (fun lj' hl' => kk p e s m args below meth c H locs R lj' C hR hM hL (by rw [pg_f1] at hl'; rw [← hls]; exact hl'))
theorem lq_iinc {i j : Nat} {n : Int} {x v : Int32} (hdg : decode Y.2.1 pc = .ok (.iinc i n, 3)) (hj : ls[j]? = some (i, .int x)) (hv : x + Int32.ofInt n = v) (hn : i < Y.2.2.1) (hls : (i, Value.int v) :: ls.filter (fun q => !(q.1 == i) && !(q.1 + 1 == i && q.2.category == 2)) = ls') (kk : lq_At S Λ Y d (pc + 3) ls' st M P) : lq_At S Λ Y d pc ls st M P :=
  fun p e s m args below meth c H locs R lj C hR hM hL hl => lv_iinc (k := j) C.1 C.2.1 hdg hl (by simp [pg_ml, List.getElem?_map, hj]; rfl) hv hn rfl (fun lj' hl' => kk p e s m args below meth c H locs R lj' C hR hM hL (by rw [pg_f1] at hl'; rw [← hls]; exact hl'))
theorem lq_ldc {index : Nat} {v : Int32} (hw : Cond.constant Y.1.cls index v ∈ pg_gd) (hdg : decode Y.2.1 pc = .ok (.ldc index, 2)) (k : lq_At S Λ Y d (pc + 2) ls (.int v :: st) M P) : lq_At S Λ Y d pc ls st M P :=
  fun p e s m args below meth c H locs R lj C hR hM hL hl => lv_ldc C.1 C.2.1 C.2.2.2.1 (C.2.2.2.2.1 _ hw) hdg (k p e s m args below meth c H locs R lj C hR hM hL hl)
theorem lq_ldcw {index : Nat} {v : Int32} (hw : Cond.constant Y.1.cls index v ∈ pg_gd) (hdg : decode Y.2.1 pc = .ok (.ldc_w index, 3)) (k : lq_At S Λ Y d (pc + 3) ls (.int v :: st) M P) : lq_At S Λ Y d pc ls st M P :=
  fun p e s m args below meth c H locs R lj C hR hM hL hl => lv_ldcw C.1 C.2.1 C.2.2.2.1 (C.2.2.2.2.1 _ hw) hdg (k p e s m args below meth c H locs R lj C hR hM hL hl)
theorem lq_ldc2 {index : Nat} {v : Int64} (hw : Cond.constantLong Y.1.cls index v ∈ pg_gd) (hdg : decode Y.2.1 pc = .ok (.ldc2_w index, 3)) (k : lq_At S Λ Y d (pc + 3) ls (.long v :: st) M P) : lq_At S Λ Y d pc ls st M P :=
  fun p e s m args below meth c H locs R lj C hR hM hL hl => lv_ldc2 C.1 C.2.1 C.2.2.2.1 (C.2.2.2.2.1 _ hw) hdg (k p e s m args below meth c H locs R lj C hR hM hL hl)
end LQI
