/-! NoSuchElementException: its words in the tables, the two statics that a Throwable reads, its making and throw -/
def rt_N : String := "java/util/NoSuchElementException"
def rt_R : String := "java/lang/RuntimeException"
def rt_E : String := "java/lang/Exception"
section RTW
variable {args : Array Value} {s : State}
theorem rt_decl {x : MethodName} {b : ByteArray} {k : Nat} {r : Option FieldType} (hi : (Cond.instanceMethod x).before args s = true) (hc : (Cond.code x b k r).before args s = true) : (Cond.declares x).before args s = true := by
  obtain ⟨m, meth, hn, hm, hst, -⟩ := Cond.instanceMethod_spec hi
  obtain ⟨meth', c, hm', -, -, -, -, -, -, hsig⟩ := Cond.code_spec hn hc
  cases hm.symm.trans hm'
  simp [Cond.before, Cond.holds, Cond.value, hn, hm, hst, hsig]
theorem rt_tA (hgd : ∀ w ∈ pg_gd, w.before args s = true) (hu : (Cond.laysStatic Bundle.tN "UNASSIGNED_STACK" Bundle.steD).before args s = true) (hs : (Cond.laysStatic Bundle.tN "SUPPRESSED_SENTINEL" Bundle.listD).before args s = true) : ∀ c ∈ Bundle.throwableAtoms, c.before args s = true :=
  List.forall_mem_cons.mpr ⟨hgd _ (pg_g (pg_t1 22 rfl) rfl), List.forall_mem_cons.mpr ⟨hgd _ (pg_g (pg_t5 233 rfl) rfl), List.forall_mem_cons.mpr ⟨hgd _ (pg_g (pg_t6 2 rfl) rfl), List.forall_mem_cons.mpr ⟨hgd _ (pg_g (pg_t6 4 rfl) rfl), List.forall_mem_cons.mpr ⟨hgd _ (pg_g (pg_t6 7 rfl) rfl), List.forall_mem_cons.mpr ⟨hgd _ (pg_g (pg_t6 9 rfl) rfl), List.forall_mem_cons.mpr ⟨hgd _ (pg_g (pg_t5 234 rfl) rfl), List.forall_mem_cons.mpr ⟨hgd _ (pg_g (pg_t5 235 rfl) rfl), List.forall_mem_cons.mpr ⟨hgd _ (pg_g (pg_t1 32 rfl) rfl), List.forall_mem_cons.mpr ⟨hgd _ (pg_g (pg_t1 33 rfl) rfl), List.forall_mem_cons.mpr ⟨hgd _ (pg_g (pg_t5 236 rfl) rfl), List.forall_mem_cons.mpr ⟨hgd _ (pg_g (pg_t6 1 rfl) rfl), List.forall_mem_cons.mpr ⟨hgd _ (pg_g (pg_t6 5 rfl) rfl), List.forall_mem_cons.mpr ⟨hgd _ (pg_g (pg_t6 25 rfl) rfl), List.forall_mem_cons.mpr ⟨hgd _ (pg_g (pg_t5 223 rfl) rfl), List.forall_mem_cons.mpr ⟨hgd _ (pg_g (pg_t6 26 rfl) rfl), List.forall_mem_cons.mpr ⟨hgd _ (pg_g (pg_t5 225 rfl) rfl), List.forall_mem_cons.mpr ⟨hgd _ (pg_g (pg_t6 27 rfl) rfl), List.forall_mem_cons.mpr ⟨hgd _ (pg_g (pg_t5 227 rfl) rfl), List.forall_mem_cons.mpr ⟨hgd _ (pg_g (pg_t5 237 rfl) rfl), List.forall_mem_cons.mpr ⟨hu, List.forall_mem_cons.mpr ⟨hgd _ (pg_g (pg_t5 239 rfl) rfl), List.forall_mem_cons.mpr ⟨hs, List.forall_mem_cons.mpr ⟨hgd _ (pg_g (pg_t5 229 rfl) rfl), fun _ h => by cases h⟩⟩⟩⟩⟩⟩⟩⟩⟩⟩⟩⟩⟩⟩⟩⟩⟩⟩⟩⟩⟩⟩⟩⟩
theorem rt_tS (hgd : ∀ w ∈ pg_gd, w.before args s = true) : ∀ c ∈ Bundle.throwableSAtoms, c.before args s = true :=
  List.forall_mem_cons.mpr ⟨hgd _ (pg_g (pg_t6 21 rfl) rfl), List.forall_mem_cons.mpr ⟨hgd _ (pg_g (pg_t6 22 rfl) rfl), List.forall_mem_cons.mpr ⟨hgd _ (pg_g (pg_t6 24 rfl) rfl), List.forall_mem_cons.mpr ⟨hgd _ (pg_g (pg_t5 229 rfl) rfl), fun _ h => by cases h⟩⟩⟩⟩
theorem rt_p1 (hgd : ∀ w ∈ pg_gd, w.before args s = true) : ∀ c ∈ Bundle.passSAtoms rt_N rt_R 13 prog_30_method_4_code, c.before args s = true :=
  List.forall_mem_cons.mpr ⟨hgd _ (pg_g (pg_t6 12 rfl) rfl), List.forall_mem_cons.mpr ⟨hgd _ (pg_g (pg_t6 13 rfl) rfl), List.forall_mem_cons.mpr ⟨hgd _ (pg_g (pg_t6 14 rfl) rfl), List.forall_mem_cons.mpr ⟨hgd _ (pg_g (pg_t6 15 rfl) rfl), List.forall_mem_cons.mpr ⟨rt_decl (hgd _ (pg_g (pg_t6 15 rfl) rfl)) (hgd _ (pg_g (pg_t6 16 rfl) rfl)), fun _ h => by cases h⟩⟩⟩⟩⟩
theorem rt_p2 (hgd : ∀ w ∈ pg_gd, w.before args s = true) : ∀ c ∈ Bundle.chainSAtoms rt_R [rt_E], c.before args s = true :=
  List.forall_mem_cons.mpr ⟨hgd _ (pg_g (pg_t6 15 rfl) rfl), List.forall_mem_cons.mpr ⟨hgd _ (pg_g (pg_t6 16 rfl) rfl), List.forall_mem_cons.mpr ⟨hgd _ (pg_g (pg_t6 17 rfl) rfl), List.forall_mem_cons.mpr ⟨hgd _ (pg_g (pg_t6 18 rfl) rfl), List.forall_mem_cons.mpr ⟨rt_decl (hgd _ (pg_g (pg_t6 18 rfl) rfl)) (hgd _ (pg_g (pg_t6 19 rfl) rfl)), List.forall_mem_cons.mpr ⟨hgd _ (pg_g (pg_t6 18 rfl) rfl), List.forall_mem_cons.mpr ⟨hgd _ (pg_g (pg_t6 19 rfl) rfl), List.forall_mem_cons.mpr ⟨hgd _ (pg_g (pg_t6 20 rfl) rfl), List.forall_mem_cons.mpr ⟨hgd _ (pg_g (pg_t6 21 rfl) rfl), List.forall_mem_cons.mpr ⟨rt_decl (hgd _ (pg_g (pg_t6 21 rfl) rfl)) (hgd _ (pg_g (pg_t6 22 rfl) rfl)), fun _ h => by cases h⟩⟩⟩⟩⟩⟩⟩⟩⟩⟩
/-- a static of Throwable that is a reference, in a cell that was there at the start -/
def rt_st (n d : String) (n0 : Nat) (U : State) (H : Heap) : Prop := ∃ (c : ClassId) (k : Class) (i : Nat) (f : Field) (a : Nat) (cell : Cell) (v : Value),
  U.vm.findClass Bundle.tN = some c ∧ U.fieldFound? Bundle.tN n d = some (c, k, i, f) ∧ f.isStatic = true ∧ k.statics = some a ∧ H[a]? = some cell ∧ cell.vm.isStatics = true ∧ cell.cls = c ∧ f.slot < cell.slots.size ∧ k.staticTypes[f.slot]? = some f.type ∧ cell.slots[f.slot]? = some v ∧ v.isRef = true ∧ a < n0
theorem rt_st.moved {n d : String} {n0 : Nat} {u U : State} {H : Heap} (hvm : u.vm.Alike U.vm) (h : rt_st n d n0 u H) : rt_st n d n0 U H := by
  obtain ⟨c, k, i, f, a, cell, v, h1, h2, h3, h4, h5, h6, h7, h8, h9, h10, h11, h12⟩ := h
  obtain ⟨k', hi', he⟩ := State.fieldFound?_setVm hvm h2
  exact ⟨c, k', i, f, a, cell, v, by rw [hvm.findClass]; exact h1, hi', h3, by rw [he]; exact h4, h5, h6, h7, h8, by rw [he]; exact h9, h10, h11, h12⟩
theorem rt_st.lays {n d : String} {n0 : Nat} {U : State} {H : Heap} (h : rt_st n d n0 U H) (hq : ∀ q : Nat, q < n0 → U.heap[q]? = H[q]?) : (Cond.laysStatic Bundle.tN n d).before args U = true := by
  obtain ⟨c, k, i, f, a, cell, v, h1, h2, h3, h4, h5, h6, h7, h8, h9, h10, h11, h12⟩ := h
  exact Cond.laysStatic_of h1 h2 h3 h4 (by rw [hq a h12]; exact h5) h6 h7 h8 h9
theorem rt_st.isRef {n d : String} {n0 : Nat} {U : State} {H : Heap} (h : rt_st n d n0 U H) (hq : ∀ q : Nat, q < n0 → U.heap[q]? = H[q]?) : (Cond.isRef (.static Bundle.tN n d)).before args U = true := by
  obtain ⟨c, k, i, f, a, cell, v, h1, h2, h3, h4, h5, h6, h7, h8, h9, h10, h11, h12⟩ := h
  have hcell : U.heap[a]? = some cell := by rw [hq a h12]; exact h5
  have he : (Term.static Bundle.tN n d).eval args U none [] U = some v := by
    simp [Term.eval, State.fieldNamed?, h2, h3, h4, hcell, h6, h10]
  cases v <;> first | (cases h11; done) | simp [Cond.before, Cond.holds, Cond.value, he]
end RTW
