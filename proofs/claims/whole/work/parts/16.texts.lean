def pg_wlen : Int32 := 137
def pg_wch (i : Nat) : Int32 := pg_words.getD i 0
/-- the place of a sign among ()<=+-*; -/
def pg_sgx (x : Int32) : Int32 := if x = 40 then 0 else if x = 41 then 1 else if x = 60 then 2 else if x = 61 then 3 else if x = 43 then 4 else if x = 45 then 5 else if x = 42 then 6 else if x = 59 then 7 else -1
/-! TEXTS: the methods of String that the program calls, on its two texts. The same face as pg_At, with no frames in hand. -/
/-- from this point of the method, with these locals and this stack, over this memory: it returns, and P -/
def pb_At (S : pg_S) (Λ : pg_L) (Y : pg_Y) (d pc : Nat) (ls : List (Nat × Value)) (st : List Value) (M : pg_M) (P : Option Value → pg_M → Prop) : Prop :=
  ∀ (p : Program) (e : Env) (s : State) (m : MethodId) (args : Array Value) (below : List Frame) (meth : Method) (c : Code) (H : Heap) (locs : List Loc) (R : Room) (lj : Array Slot),
    pg_C S Y p s m args meth c → (d ≤ R.frames ∧ 64 * d ≤ R.locals) → pg_R S Λ M H → (∀ q ∈ locs, S.2.1 ≤ q.base) → lv_has lj Y.2.2.1 (pg_ml S ls) →
    W p S.1 e R s m args below meth c H locs 0 0 (MQ below (pg_Q S Λ P) args s 0 0 (fun q => S.2.1 ≤ q)) (F0 m pc lj (st.map (pg_up S)))
/-- a method, from its start: it returns, and P -/
def pb_Ev (S : pg_S) (Λ : pg_L) (Y : pg_Y) (d : Nat) (As : List Value) (M : pg_M) (P : Option Value → pg_M → Prop) : Prop :=
  ∀ rm : Room, d ≤ rm.frames → 64 * d ≤ rm.locals → rm.cells = 0 → rm.slots = 0 → Met S.1 Y.1 (Cond.code Y.1 Y.2.1 Y.2.2.1 Y.2.2.2 :: pg_gd) rm (pg_P S Λ As M) (pg_Q S Λ P) 0 0 (fun q => S.2.1 ≤ q)
theorem pb_Ev.of {S : pg_S} {Λ : pg_L} {Y : pg_Y} {d : Nat} {As : List Value} {M : pg_M} {P : Option Value → pg_M → Prop} (hy : plainName Y.1.cls = true) (hn : (lg_sl As).length ≤ Y.2.2.1) (h : pb_At S Λ Y d 0 (lv_args 0 As) [] M P) : pb_Ev S Λ Y d As M P := by
  intro rm h1 h2 h3 h4
  refine Met.ofW (cc := Y.2.1) (maxL := Y.2.2.1) (ret := Y.2.2.2) hy rfl ?_
  intro p e s m args below meth c s₁ B hml hv
  obtain ⟨rfl, hR, hK⟩ := hv
  have hts := atoms_spec (ws := Cond.code Y.1 Y.2.1 Y.2.2.1 Y.2.2.2 :: pg_gd) B.pre
  have hl := lv_entry (As.map (pg_up S)) (n := Y.2.2.1) (by rw [pg_sl]; exact hn)
  rw [pg_args] at hl
  rw [lg_entry_eq]
  exact h p e s m _ below meth c s.heap [] (headSpec (Cond.code Y.1 Y.2.1 Y.2.2.1 Y.2.2.2 :: pg_gd) rm).room _ ⟨B.exec, B.bytes, hml, findClass_of_methodNamed B.named, fun w hw => hts w (List.mem_cons_of_mem _ hw), hK, B.returns, B.notSynchronized⟩ ⟨h1, h2⟩ hR (fun q hq => by cases hq) hl
theorem pb_Ev.ofF {S : pg_S} {Λ : pg_L} {Y : pg_Y} {d : Nat} {As : List Value} {M : pg_M} {P : Option Value → pg_M → Prop} (hy : plainFor Y.1 = true) (hn : (lg_sl As).length ≤ Y.2.2.1) (h : pb_At S Λ Y d 0 (lv_args 0 As) [] M P) : pb_Ev S Λ Y d As M P := by
  intro rm h1 h2 h3 h4
  refine va_MetF (cc := Y.2.1) (maxL := Y.2.2.1) (ret := Y.2.2.2) hy rfl ?_
  intro p e s m args below meth c s₁ B hml hv
  obtain ⟨rfl, hR, hK⟩ := hv
  have hts := atoms_spec (ws := Cond.code Y.1 Y.2.1 Y.2.2.1 Y.2.2.2 :: pg_gd) B.pre
  have hl := lv_entry (As.map (pg_up S)) (n := Y.2.2.1) (by rw [pg_sl]; exact hn)
  rw [pg_args] at hl
  rw [lg_entry_eq]
  exact h p e s m _ below meth c s.heap [] (headSpec (Cond.code Y.1 Y.2.1 Y.2.2.1 Y.2.2.2 :: pg_gd) rm).room _ ⟨B.exec, B.bytes, hml, findClass_of_methodNamed B.named, fun w hw => hts w (List.mem_cons_of_mem _ hw), hK, B.returns, B.notSynchronized⟩ ⟨h1, h2⟩ hR (fun q hq => by cases hq) hl
section PBI
variable {S : pg_S} {Λ : pg_L} {Y : pg_Y} {d pc : Nat} {ls ls' : List (Nat × Value)} {st : List Value} {M : pg_M} {P : Option Value → pg_M → Prop}
theorem pb_drop {ks : List Nat} (h : lv_pick ls ks = ls') (k : pb_At S Λ Y d pc ls' st M P) : pb_At S Λ Y d pc ls st M P := by
  intro p e s m args below meth c H locs R lj C hR hM hL hl
  refine k p e s m args below meth c H locs R lj C hR hM hL (lv_sub hl ks ?_)
  subst h
  unfold lv_pick pg_ml
  rw [List.map_filterMap]
  congr 1
  funext j
  simp [List.getElem?_map]
theorem pb_iconst {n : Int} {v : Int32} (hdg : decode Y.2.1 pc = .ok (.iconst n, 1)) (hv : Int32.ofInt n = v) (k : pb_At S Λ Y d (pc + 1) ls (.int v :: st) M P) : pb_At S Λ Y d pc ls (st) M P :=
  fun p e s m args below meth c H locs R lj C hR hM hL hl => lv_iconst C.1 C.2.1 hdg hv (k p e s m args below meth c H locs R lj C hR hM hL hl)
theorem pb_sipush {n : Int} {v : Int32} (hdg : decode Y.2.1 pc = .ok (.sipush n, 3)) (hv : (Int16.ofInt n).toInt32 = v) (k : pb_At S Λ Y d (pc + 3) ls (.int v :: st) M P) : pb_At S Λ Y d pc ls (st) M P :=
  fun p e s m args below meth c H locs R lj C hR hM hL hl => lv_sipush C.1 C.2.1 hdg hv (k p e s m args below meth c H locs R lj C hR hM hL hl)
theorem pb_iand {x y : Int32} (hdg : decode Y.2.1 pc = .ok (.iand, 1)) (k : pb_At S Λ Y d (pc + 1) ls (.int (x &&& y) :: st) M P) : pb_At S Λ Y d pc ls (.int y :: .int x :: st) M P :=
  fun p e s m args below meth c H locs R lj C hR hM hL hl => lv_iand C.1 C.2.1 hdg (k p e s m args below meth c H locs R lj C hR hM hL hl)
theorem pb_ishr {x y : Int32} (hdg : decode Y.2.1 pc = .ok (.ishr, 1)) (k : pb_At S Λ Y d (pc + 1) ls (.int (x >>> (y &&& 31)) :: st) M P) : pb_At S Λ Y d pc ls (.int y :: .int x :: st) M P :=
  fun p e s m args below meth c H locs R lj C hR hM hL hl => lv_ishr C.1 C.2.1 hdg (k p e s m args below meth c H locs R lj C hR hM hL hl)
theorem pb_i2c {x : Int32} {v : Int32} (hdg : decode Y.2.1 pc = .ok (.i2c, 1)) (hv : (x.toUInt32 % 65536).toInt32 = v) (k : pb_At S Λ Y d (pc + 1) ls (.int v :: st) M P) : pb_At S Λ Y d pc ls (.int x :: st) M P :=
  fun p e s m args below meth c H locs R lj C hR hM hL hl => lv_i2c C.1 C.2.1 hdg hv (k p e s m args below meth c H locs R lj C hR hM hL hl)
theorem pb_i2b {x : Int32} {v : Int32} (hdg : decode Y.2.1 pc = .ok (.i2b, 1)) (hv : x.toInt8.toInt32 = v) (k : pb_At S Λ Y d (pc + 1) ls (.int v :: st) M P) : pb_At S Λ Y d pc ls (.int x :: st) M P :=
  fun p e s m args below meth c H locs R lj C hR hM hL hl => lv_i2b C.1 C.2.1 hdg hv (k p e s m args below meth c H locs R lj C hR hM hL hl)
theorem pb_pop {va : Value} (hdg : decode Y.2.1 pc = .ok (.pop, 1)) (hva : va.category = 1) (k : pb_At S Λ Y d (pc + 1) ls (st) M P) : pb_At S Λ Y d pc ls (va :: st) M P :=
  fun p e s m args below meth c H locs R lj C hR hM hL hl => lv_pop C.1 C.2.1 hdg (by rw [pg_up_cat]; exact hva) (k p e s m args below meth c H locs R lj C hR hM hL hl)
theorem pb_if_eq {x : Int32} {off : Int} {tgt : Nat} (hdg : decode Y.2.1 pc = .ok (.ifCond .eq off, 3)) (ht : (pc : Int) + off = (tgt : Int)) (kt : x = 0 → pb_At S Λ Y d tgt ls st M P) (kf : ¬ x = 0 → pb_At S Λ Y d (pc + 3) ls st M P) : pb_At S Λ Y d pc ls (.int x :: st) M P :=
  fun p e s m args below meth c H locs R lj C hR hM hL hl => lv_if_eq C.1 C.2.1 hdg ht (fun h9 => kt h9 p e s m args below meth c H locs R lj C hR hM hL hl) (fun h9 => kf h9 p e s m args below meth c H locs R lj C hR hM hL hl)
theorem pb_if_ne {x : Int32} {off : Int} {tgt : Nat} (hdg : decode Y.2.1 pc = .ok (.ifCond .ne off, 3)) (ht : (pc : Int) + off = (tgt : Int)) (kt : ¬ x = 0 → pb_At S Λ Y d tgt ls st M P) (kf : x = 0 → pb_At S Λ Y d (pc + 3) ls st M P) : pb_At S Λ Y d pc ls (.int x :: st) M P :=
  fun p e s m args below meth c H locs R lj C hR hM hL hl => lv_if_ne C.1 C.2.1 hdg ht (fun h9 => kt h9 p e s m args below meth c H locs R lj C hR hM hL hl) (fun h9 => kf h9 p e s m args below meth c H locs R lj C hR hM hL hl)
theorem pb_if_lt {x : Int32} {off : Int} {tgt : Nat} (hdg : decode Y.2.1 pc = .ok (.ifCond .lt off, 3)) (ht : (pc : Int) + off = (tgt : Int)) (kt : x < 0 → pb_At S Λ Y d tgt ls st M P) (kf : ¬ x < 0 → pb_At S Λ Y d (pc + 3) ls st M P) : pb_At S Λ Y d pc ls (.int x :: st) M P :=
  fun p e s m args below meth c H locs R lj C hR hM hL hl => lv_if_lt C.1 C.2.1 hdg ht (fun h9 => kt h9 p e s m args below meth c H locs R lj C hR hM hL hl) (fun h9 => kf h9 p e s m args below meth c H locs R lj C hR hM hL hl)
theorem pb_icmp_lt {x y : Int32} {off : Int} {tgt : Nat} (hdg : decode Y.2.1 pc = .ok (.if_icmp .lt off, 3)) (ht : (pc : Int) + off = (tgt : Int)) (kt : x < y → pb_At S Λ Y d tgt ls st M P) (kf : ¬ x < y → pb_At S Λ Y d (pc + 3) ls st M P) : pb_At S Λ Y d pc ls (.int y :: .int x :: st) M P :=
  fun p e s m args below meth c H locs R lj C hR hM hL hl => lv_icmp_lt C.1 C.2.1 hdg ht (fun h9 => kt h9 p e s m args below meth c H locs R lj C hR hM hL hl) (fun h9 => kf h9 p e s m args below meth c H locs R lj C hR hM hL hl)
theorem pb_icmp_ge {x y : Int32} {off : Int} {tgt : Nat} (hdg : decode Y.2.1 pc = .ok (.if_icmp .ge off, 3)) (ht : (pc : Int) + off = (tgt : Int)) (kt : y ≤ x → pb_At S Λ Y d tgt ls st M P) (kf : ¬ y ≤ x → pb_At S Λ Y d (pc + 3) ls st M P) : pb_At S Λ Y d pc ls (.int y :: .int x :: st) M P :=
  fun p e s m args below meth c H locs R lj C hR hM hL hl => lv_icmp_ge C.1 C.2.1 hdg ht (fun h9 => kt h9 p e s m args below meth c H locs R lj C hR hM hL hl) (fun h9 => kf h9 p e s m args below meth c H locs R lj C hR hM hL hl)
theorem pb_icmp_gt {x y : Int32} {off : Int} {tgt : Nat} (hdg : decode Y.2.1 pc = .ok (.if_icmp .gt off, 3)) (ht : (pc : Int) + off = (tgt : Int)) (kt : y < x → pb_At S Λ Y d tgt ls st M P) (kf : ¬ y < x → pb_At S Λ Y d (pc + 3) ls st M P) : pb_At S Λ Y d pc ls (.int y :: .int x :: st) M P :=
  fun p e s m args below meth c H locs R lj C hR hM hL hl => lv_icmp_gt C.1 C.2.1 hdg ht (fun h9 => kt h9 p e s m args below meth c H locs R lj C hR hM hL hl) (fun h9 => kf h9 p e s m args below meth c H locs R lj C hR hM hL hl)
theorem pb_icmp_ne {x y : Int32} {off : Int} {tgt : Nat} (hdg : decode Y.2.1 pc = .ok (.if_icmp .ne off, 3)) (ht : (pc : Int) + off = (tgt : Int)) (kt : ¬ x = y → pb_At S Λ Y d tgt ls st M P) (kf : x = y → pb_At S Λ Y d (pc + 3) ls st M P) : pb_At S Λ Y d pc ls (.int y :: .int x :: st) M P :=
  fun p e s m args below meth c H locs R lj C hR hM hL hl => lv_icmp_ne C.1 C.2.1 hdg ht (fun h9 => kt h9 p e s m args below meth c H locs R lj C hR hM hL hl) (fun h9 => kf h9 p e s m args below meth c H locs R lj C hR hM hL hl)
theorem pb_goto {off : Int} {tgt : Nat} (hdg : decode Y.2.1 pc = .ok (.goto off, 3)) (ht : (pc : Int) + off = (tgt : Int)) (k : pb_At S Λ Y d tgt ls st M P) : pb_At S Λ Y d pc ls st M P :=
  fun p e s m args below meth c H locs R lj C hR hM hL hl => lv_goto C.1 C.2.1 hdg ht (k p e s m args below meth c H locs R lj C hR hM hL hl)
theorem pb_iload_n {k : Fin 4} {i j : Nat} {x : Int32} (hdg : decode Y.2.1 pc = .ok (.iload_n k, 1)) (hi : (k : Nat) = i) (hj : ls[j]? = some (i, .int x)) (kk : pb_At S Λ Y d (pc + 1) ls (.int x :: st) M P) : pb_At S Λ Y d pc ls st M P :=
  fun p e s m args below meth c H locs R lj C hR hM hL hl => lv_iload_n C.1 C.2.1 hdg hi (pg_loc (v := .int x) hl hj) (kk p e s m args below meth c H locs R lj C hR hM hL hl)
theorem pb_iload {i j : Nat} {x : Int32} (hdg : decode Y.2.1 pc = .ok (.iload i, 2)) (hj : ls[j]? = some (i, .int x)) (kk : pb_At S Λ Y d (pc + 2) ls (.int x :: st) M P) : pb_At S Λ Y d pc ls st M P :=
  fun p e s m args below meth c H locs R lj C hR hM hL hl => lv_iload C.1 C.2.1 hdg (pg_loc (v := .int x) hl hj) (kk p e s m args below meth c H locs R lj C hR hM hL hl)
theorem pb_istore_n {k : Fin 4} {i : Nat} {x : Int32} (hdg : decode Y.2.1 pc = .ok (.istore_n k, 1)) (hi : (k : Nat) = i) (hn : i < Y.2.2.1) (hls : (i, Value.int x) :: ls.filter (fun q => !(q.1 == i) && !(q.1 + 1 == i && q.2.category == 2)) = ls') (kk : pb_At S Λ Y d (pc + 1) ls' st M P) : pb_At S Λ Y d pc ls (.int x :: st) M P :=
  fun p e s m args below meth c H locs R lj C hR hM hL hl => lv_istore_n C.1 C.2.1 hdg hi hl hn rfl (fun lj' hl' => kk p e s m args below meth c H locs R lj' C hR hM hL (by rw [pg_f1] at hl'; rw [← hls]; exact hl'))
theorem pb_istore {i : Nat} {x : Int32} (hdg : decode Y.2.1 pc = .ok (.istore i, 2)) (hn : i < Y.2.2.1) (hls : (i, Value.int x) :: ls.filter (fun q => !(q.1 == i) && !(q.1 + 1 == i && q.2.category == 2)) = ls') (kk : pb_At S Λ Y d (pc + 2) ls' st M P) : pb_At S Λ Y d pc ls (.int x :: st) M P :=
  fun p e s m args below meth c H locs R lj C hR hM hL hl => lv_istore C.1 C.2.1 hdg hl hn rfl (fun lj' hl' => kk p e s m args below meth c H locs R lj' C hR hM hL (by rw [pg_f1] at hl'; rw [← hls]; exact hl'))
theorem pb_aload_n {k : Fin 4} {i j : Nat} {x : Nat} (hdg : decode Y.2.1 pc = .ok (.aload_n k, 1)) (hi : (k : Nat) = i) (hj : ls[j]? = some (i, .ref x)) (kk : pb_At S Λ Y d (pc + 1) ls (.ref x :: st) M P) : pb_At S Λ Y d pc ls st M P :=
  fun p e s m args below meth c H locs R lj C hR hM hL hl => lv_aload_n C.1 C.2.1 hdg hi (pg_loc (v := .ref x) hl hj) (kk p e s m args below meth c H locs R lj C hR hM hL hl)
theorem pb_iinc {i j : Nat} {n : Int} {x v : Int32} (hdg : decode Y.2.1 pc = .ok (.iinc i n, 3)) (hj : ls[j]? = some (i, .int x)) (hv : x + Int32.ofInt n = v) (hn : i < Y.2.2.1) (hls : (i, Value.int v) :: ls.filter (fun q => !(q.1 == i) && !(q.1 + 1 == i && q.2.category == 2)) = ls') (kk : pb_At S Λ Y d (pc + 3) ls' st M P) : pb_At S Λ Y d pc ls st M P :=
  fun p e s m args below meth c H locs R lj C hR hM hL hl => lv_iinc (k := j) C.1 C.2.1 hdg hl (by simp [pg_ml, List.getElem?_map, hj]; rfl) hv hn rfl (fun lj' hl' => kk p e s m args below meth c H locs R lj' C hR hM hL (by rw [pg_f1] at hl'; rw [← hls]; exact hl'))
theorem pb_iret {v : Int32} (hr : Y.2.2.2 = some .int) (hdg : decode Y.2.1 pc = .ok (.ireturn, 1)) (h : P (some (.int v)) M) : pb_At S Λ Y d pc ls [.int v] M P :=
  fun p e s m args below meth c H locs R lj C9 hR hM hL hl => W.iret C9.1 C9.2.1 (C9.2.2.2.2.2.2.1.trans hr) (fun t ht _ => ⟨some (.int v), M, rfl, h, by rw [ht]; exact hM⟩) hL hdg C9.2.2.2.2.2.2.2
theorem pb_zret {v : Int32} {ty : FieldType} (hr : Y.2.2.2 = some ty) (hn : narrow ty (.int v) = .int v) (hdg : decode Y.2.1 pc = .ok (.ireturn, 1)) (h : P (some (.int v)) M) : pb_At S Λ Y d pc ls [.int v] M P :=
  fun p e s m args below meth c H locs R lj C9 hR hM hL hl => W.zret C9.1 C9.2.1 (C9.2.2.2.2.2.2.1.trans hr) hn (fun t ht _ => ⟨some (.int v), M, rfl, h, by rw [ht]; exact hM⟩) hL hdg C9.2.2.2.2.2.2.2
theorem pb_vret (hr : Y.2.2.2 = none) (hdg : decode Y.2.1 pc = .ok (.return_, 1)) (h : P none M) : pb_At S Λ Y d pc ls [] M P :=
  fun p e s m args below meth c H locs R lj C9 hR hM hL hl => W.vret C9.1 C9.2.1 (C9.2.2.2.2.2.2.1.trans hr) (fun t ht _ => ⟨none, M, rfl, h, by rw [ht]; exact hM⟩) hL hdg C9.2.2.2.2.2.2.2
theorem pb_goon {As : Array Value} {P' : Option Value → pg_M → Prop} {st0 : List Value} {p : Program} {e : Env} {s : State} {m : MethodId} {args : Array Value} {below : List Frame} {meth : Method} {c : Code} {H : Heap} {locs : List Loc} {R : Room} {lj : Array Slot} (C9 : pg_C S Y p s m args meth c) (hR : d ≤ R.frames ∧ 64 * d ≤ R.locals) (hL : ∀ q ∈ locs, S.2.1 ≤ q.base) (hl : lv_has lj Y.2.2.1 (pg_ml S ls))
    (hr : va_Run p S.1 e R s m args below meth c H locs 0 0 0 0 (F0 m pc lj st0) (st.map (pg_up S)) (pg_Q S Λ P' As) (fun q => S.2.1 ≤ q)) (kk : ∀ r M', P' r M' → pb_At S Λ Y d (pc + 3) ls (r.toList ++ st) M' P) :
    W p S.1 e R s m args below meth c H locs 0 0 (MQ below (pg_Q S Λ P) args s 0 0 (fun q => S.2.1 ≤ q)) (F0 m pc lj st0) := by
  intro T hT X
  obtain ⟨v, st₀, t, T', L, h0, X', hL', e1, e2, ⟨r, M', hv, hp, hm⟩, go⟩ := hr T hT X
  have hv' : v = r.map (pg_up S) := Outcome.returned.inj hv
  subst hv'
  have h9 := kk r M' hp p e s m args below meth c T'.heap (locs ++ L) R lj C9 hR (by rw [e1]; exact hm) (fun q hq => (List.mem_append.mp hq).elim (hL q) (hL' q)) hl
  rw [List.map_append, show r.toList.map (pg_up S) = (r.map (pg_up S)).toList by cases r <;> rfl] at h9
  obtain ⟨t2, a1, b1⟩ := h9 T' rfl X'
  exact ⟨t2, go t2 a1, b1⟩
theorem pb_callS {Y' : pg_Y} {d' index : Nat} {As : List Value} {P' : Option Value → pg_M → Prop} (ok : pg_okS Y') (hlink : Cond.methodLink Y.1.cls index Y'.1 ∈ pg_gd) (hn : (parseMethodDescriptor Y'.1.desc).map (fun d => d.parameters.length) = some As.length) (hdd : d' + 1 ≤ d) (hst : (st.map fun v => v.category).sum ≤ 8)
    (hE : pb_Ev S Λ Y' d' As M P') (hdg : decode Y.2.1 pc = .ok (.invokestatic index, 3)) (kk : ∀ r M', P' r M' → pb_At S Λ Y d (pc + 3) ls (r.toList ++ st) M' P) : pb_At S Λ Y d pc ls (As.reverse ++ st) M P := by
  intro p e s m args below meth c H locs R lj C9 hR hM hL hl
  obtain ⟨o1, o3, o4, o5, o6, o7⟩ := ok
  have hM9 := hE ({ frames := d', cells := 0, slots := 0, locals := 64 * d' } : Room) (Nat.le_refl _) (Nat.le_refl _) rfl rfl
  refine pb_goon (As := (As.map (pg_up S)).toArray) C9 hR hL hl ?_ kk
  refine va_runS (As := As.map (pg_up S)) (n := As.length) ⟨C9.1, C9.2.1, C9.2.2.1, C9.2.2.2.1, C9.2.2.2.2.1⟩ hM9 (va_cwS As.length C9.2.2.2.2.1 (fun w hw => ?_) rfl rfl rfl ⟨o5, o6, hn⟩ ⟨by show d' + 1 ≤ R.frames; omega, by show 8 + (Y'.2.2.1 + 11) + 64 * d' ≤ R.locals; omega⟩) ⟨pg_blind, fun U hU hW => ⟨rfl, by rw [hU]; exact hM, pg_K.warm hW C9.2.2.2.2.2.1⟩⟩ rfl (by simp) hl.1 (by simp) (lv_room (by rw [List.map_map]; simpa [Function.comp_def, pg_up_cat] using hst)) hdg ⟨Nat.zero_le _, Nat.zero_le _⟩
  have hg := pg_good o4
  unfold va_wsS at hw
  rcases List.mem_append.mp hw with h | h
  · have : w ∈ pg_gd := by
      simp only [List.mem_cons, List.not_mem_nil, or_false] at h
      rcases h with rfl | rfl | rfl
      · exact hlink
      · exact o1
      · exact o3
    exact hg w (List.mem_cons_of_mem _ this)
  · exact hg w h
end PBI
section PBS
variable {S : pg_S} {Λ : pg_L} {d : Nat} {M : pg_M} {P : Option Value → pg_M → Prop}
theorem bsJ9_max_7cf53_0 {v0 : Int32} {v1 : Int32} 
    (k0 : (v0 < v1) → P (some (.int v1)) M)
    (k1 : (¬ v0 < v1) → P (some (.int v0)) M) :
    pb_At S Λ YJ9_max_7cf53 d 0 [(0, .int v0), (1, .int v1)] [] M P := by
  refine pb_iload_n (pc := 0) (i := 0) (j := 0) (x := v0) dJ9_max_7cf53_0 rfl rfl ?_
  refine pb_iload_n (pc := 1) (i := 1) (j := 1) (x := v1) dJ9_max_7cf53_1 rfl rfl ?_
  refine pb_icmp_lt (pc := 2) (tgt := 9) dJ9_max_7cf53_2 (by decide) (fun c0 => ?_) (fun c0 => ?_)
  · skip
    refine pb_iload_n (pc := 9) (i := 1) (j := 1) (x := v1) dJ9_max_7cf53_9 rfl rfl ?_
    exact pb_iret (pc := 10) rfl dJ9_max_7cf53_10 (k0 c0)
  · skip
    refine pb_iload_n (pc := 5) (i := 0) (j := 0) (x := v0) dJ9_max_7cf53_5 rfl rfl ?_
    refine pb_goto (pc := 6) (tgt := 10) dJ9_max_7cf53_6 (by decide) ?_
    exact pb_iret (pc := 10) rfl dJ9_max_7cf53_10 (k1 c0)
theorem boJ9_max_7cf53 {d : Nat} {v0 : Int32} {v1 : Int32} (h : pb_At S Λ YJ9_max_7cf53 d 0 [(0, .int v0), (1, .int v1)] [] M P) : pb_Ev S Λ YJ9_max_7cf53 d [.int v0, .int v1] M P := pb_Ev.ofF (by decide +kernel) (by first | decide | exact Nat.le_of_ble_eq_true rfl) h
theorem bsJ9_min_7cf53_0 {v0 : Int32} {v1 : Int32} 
    (k0 : (v1 < v0) → P (some (.int v1)) M)
    (k1 : (¬ v1 < v0) → P (some (.int v0)) M) :
    pb_At S Λ YJ9_min_7cf53 d 0 [(0, .int v0), (1, .int v1)] [] M P := by
  refine pb_iload_n (pc := 0) (i := 0) (j := 0) (x := v0) dJ9_min_7cf53_0 rfl rfl ?_
  refine pb_iload_n (pc := 1) (i := 1) (j := 1) (x := v1) dJ9_min_7cf53_1 rfl rfl ?_
  refine pb_icmp_gt (pc := 2) (tgt := 9) dJ9_min_7cf53_2 (by decide) (fun c0 => ?_) (fun c0 => ?_)
  · skip
    refine pb_iload_n (pc := 9) (i := 1) (j := 1) (x := v1) dJ9_min_7cf53_9 rfl rfl ?_
    exact pb_iret (pc := 10) rfl dJ9_min_7cf53_10 (k0 c0)
  · skip
    refine pb_iload_n (pc := 5) (i := 0) (j := 0) (x := v0) dJ9_min_7cf53_5 rfl rfl ?_
    refine pb_goto (pc := 6) (tgt := 10) dJ9_min_7cf53_6 (by decide) ?_
    exact pb_iret (pc := 10) rfl dJ9_min_7cf53_10 (k1 c0)
theorem boJ9_min_7cf53 {d : Nat} {v0 : Int32} {v1 : Int32} (h : pb_At S Λ YJ9_min_7cf53 d 0 [(0, .int v0), (1, .int v1)] [] M P) : pb_Ev S Λ YJ9_min_7cf53 d [.int v0, .int v1] M P := pb_Ev.ofF (by decide +kernel) (by first | decide | exact Nat.le_of_ble_eq_true rfl) h
end PBS
section PBJ
variable {S : pg_S} {Λ : pg_L} {Y : pg_Y} {d pc index : Nat} {ls : List (Nat × Value)} {st : List Value} {M : pg_M} {P : Option Value → pg_M → Prop}
theorem pb_evmax {x y : Int32} : pb_Ev S Λ YJ9_max_7cf53 d [.int x, .int y] M (fun r M' => r = some (.int (pg_max x y)) ∧ M' = M) :=
  boJ9_max_7cf53 (bsJ9_max_7cf53_0 (fun h => ⟨by simp [pg_max, h], rfl⟩) (fun h => ⟨by simp [pg_max, h], rfl⟩))
theorem pb_evmin {x y : Int32} : pb_Ev S Λ YJ9_min_7cf53 d [.int x, .int y] M (fun r M' => r = some (.int (pg_min x y)) ∧ M' = M) :=
  boJ9_min_7cf53 (bsJ9_min_7cf53_0 (fun h => ⟨by simp [pg_min, h], rfl⟩) (fun h => ⟨by simp [pg_min, h], rfl⟩))
theorem pb_jmax {x y : Int32} (hlink : Cond.methodLink Y.1.cls index yJ9_max_7cf53 ∈ pg_gd) (hst : (st.map fun v => v.category).sum ≤ 8) (hdg : decode Y.2.1 pc = .ok (.invokestatic index, 3)) (kk : pb_At S Λ Y (d + 1) (pc + 3) ls (.int (pg_max x y) :: st) M P) : pb_At S Λ Y (d + 1) pc ls (.int y :: .int x :: st) M P :=
  pb_callS (As := [.int x, .int y]) okJ9_max_7cf53 hlink rfl (Nat.le_refl _) hst (pb_evmax) hdg (fun r M' w => by obtain ⟨rfl, rfl⟩ := w; exact kk)
theorem pb_jmin {x y : Int32} (hlink : Cond.methodLink Y.1.cls index yJ9_min_7cf53 ∈ pg_gd) (hst : (st.map fun v => v.category).sum ≤ 8) (hdg : decode Y.2.1 pc = .ok (.invokestatic index, 3)) (kk : pb_At S Λ Y (d + 1) (pc + 3) ls (.int (pg_min x y) :: st) M P) : pb_At S Λ Y (d + 1) pc ls (.int y :: .int x :: st) M P :=
  pb_callS (As := [.int x, .int y]) okJ9_min_7cf53 hlink rfl (Nat.le_refl _) hst (pb_evmin) hdg (fun r M' w => by obtain ⟨rfl, rfl⟩ := w; exact kk)
end PBJ
theorem pb_fval : Cond.fieldLink RJ0 9 "java/lang/String" "value" "[B" ∈ pg_gd := pg_g (pg_t8 168 rfl) rfl
theorem pb_fcod : Cond.fieldLink RJ0 15 "java/lang/String" "coder" "B" ∈ pg_gd := pg_g (pg_t8 169 rfl) rfl
theorem pb_fcs : Cond.fieldLink RJ0 38 "java/lang/String" "COMPACT_STRINGS" "Z" ∈ pg_gd := pg_g (pg_t3 12 rfl) rfl
theorem pb_fsio : Cond.fieldLink RJ0 1053 "jdk/internal/util/Preconditions" "SIOOBE_FORMATTER" "Ljava/util/function/BiFunction;" ∈ pg_gd := pg_g (pg_t3 28 rfl) rfl
section PBO
variable {S : pg_S} {Λ : pg_L} {Y : pg_Y} {d pc : Nat} {ls ls' : List (Nat × Value)} {st : List Value} {M : pg_M} {P : Option Value → pg_M → Prop}
theorem pg_R.old {H : Heap} (hM : pg_R S Λ M H) : ∀ a : Nat, a < S.2.2.2.2.2.size → ¬ S.2.1 ≤ a → H[a]? = S.2.2.2.2.2[a]? := fun a _ h => hM.2.1 a (by omega)
theorem pb_up1 {k : Nat} (hk : 1000 ≤ k) : (Value.ref k :: st).map (pg_up S) = .ref (S.2.2.2.2.1 k) :: st.map (pg_up S) := by
  simp [pg_up, pg_ad, Nat.not_lt.mpr hk]
theorem pb_gval {i : Nat} (hi : i < 2) (hlink : Cond.fieldLink Y.1.cls 9 "java/lang/String" "value" "[B" ∈ pg_gd) (hdg : decode Y.2.1 pc = .ok (.getfield 9, 3)) (kk : pb_At S Λ Y d (pc + 3) ls (.ref (1100 + i) :: st) M P) : pb_At S Λ Y d pc ls (.ref (1000 + i) :: st) M P := by
  intro p e s m args below meth c H locs R lj C9 hR hM hL hl
  have h9 := kk p e s m args below meth c H locs R lj C9 hR hM hL hl
  rw [pb_up1 (by omega)] at h9 ⊢
  obtain ⟨cf, k, fi, f, cell, h1, h2, h3, h4, h5, h6⟩ := ((C9.2.2.2.2.2.1.2.2.2.1).1 i hi).2.2.1.kept hM.old
  exact W.getf C9.1 C9.2.1 C9.2.2.2.1 (C9.2.2.2.2.1 _ hlink) h1 h2 h3 h4 (v := .ref (S.2.2.2.2.1 (1100 + i))) h5 rfl rfl hdg h9
theorem pb_gcod {i : Nat} (hi : i < 2) (hlink : Cond.fieldLink Y.1.cls 15 "java/lang/String" "coder" "B" ∈ pg_gd) (hdg : decode Y.2.1 pc = .ok (.getfield 15, 3)) (kk : pb_At S Λ Y d (pc + 3) ls (.int 0 :: st) M P) : pb_At S Λ Y d pc ls (.ref (1000 + i) :: st) M P := by
  intro p e s m args below meth c H locs R lj C9 hR hM hL hl
  have h9 := kk p e s m args below meth c H locs R lj C9 hR hM hL hl
  rw [pb_up1 (by omega)]
  obtain ⟨cf, k, fi, f, cell, h1, h2, h3, h4, h5, h6⟩ := ((C9.2.2.2.2.2.1.2.2.2.1).1 i hi).2.1.kept hM.old
  exact W.getf C9.1 C9.2.1 C9.2.2.2.1 (C9.2.2.2.2.1 _ hlink) h1 h2 h3 h4 (v := .int 0) h5 rfl rfl hdg h9
theorem pb_gcs (hlink : Cond.fieldLink Y.1.cls 38 "java/lang/String" "COMPACT_STRINGS" "Z" ∈ pg_gd) (hdg : decode Y.2.1 pc = .ok (.getstatic 38, 3)) (kk : pb_At S Λ Y d (pc + 3) ls (.int 1 :: st) M P) : pb_At S Λ Y d pc ls st M P := by
  intro p e s m args below meth c H locs R lj C9 hR hM hL hl
  have h9 := kk p e s m args below meth c H locs R lj C9 hR hM hL hl
  obtain ⟨cf, kf, fi, f, a, cell, h1, h2, h3, h4, h5, h6, h7, h8⟩ := (C9.2.2.2.2.2.1.2.2.2.2.1).kept hM.old
  exact W.gets C9.1 C9.2.1 C9.2.2.2.1 (C9.2.2.2.2.1 _ hlink) h1 h2 h3 h4 h5 (fun e => by rw [e] at h6; cases h6) h7 rfl hdg h9
theorem pb_gsio (hlink : Cond.fieldLink Y.1.cls 1053 "jdk/internal/util/Preconditions" "SIOOBE_FORMATTER" "Ljava/util/function/BiFunction;" ∈ pg_gd) (hdg : decode Y.2.1 pc = .ok (.getstatic 1053, 3)) (kk : ∀ v : Value, (v = .null ∨ v = .ref 1200) → pb_At S Λ Y d (pc + 3) ls (v :: st) M P) : pb_At S Λ Y d pc ls st M P := by
  intro p e s m args below meth c H locs R lj C9 hR hM hL hl
  rcases C9.2.2.2.2.2.1.2.2.2.2.2 with h | h
  · have h9 := kk .null (Or.inl rfl) p e s m args below meth c H locs R lj C9 hR hM hL hl
    obtain ⟨cf, kf, fi, f, a, cell, h1, h2, h3, h4, h5, h6, h7, h8⟩ := h.kept hM.old
    exact W.gets C9.1 C9.2.1 C9.2.2.2.1 (C9.2.2.2.2.1 _ hlink) h1 h2 h3 h4 h5 (fun e => by rw [e] at h6; cases h6) h7 rfl hdg h9
  · have h9 := kk (.ref 1200) (Or.inr rfl) p e s m args below meth c H locs R lj C9 hR hM hL hl
    rw [pb_up1 (by omega)] at h9
    obtain ⟨cf, kf, fi, f, a, cell, h1, h2, h3, h4, h5, h6, h7, h8⟩ := h.kept hM.old
    exact W.gets C9.1 C9.2.1 C9.2.2.2.1 (C9.2.2.2.2.1 _ hlink) h1 h2 h3 h4 h5 (fun e => by rw [e] at h6; cases h6) h7 rfl hdg h9
theorem pb_bald {i : Nat} {x : Int32} (hi : i < 2) (hin : vp_in x (([137, 8] : List Nat).getD i 0)) (hdg : decode Y.2.1 pc = .ok (.baload, 1)) (kk : pb_At S Λ Y d (pc + 1) ls (.int ((([pg_words, pg_signs] : List (List Int32)).getD i []).getD x.toNatClampNeg 0) :: st) M P) : pb_At S Λ Y d pc ls (.int x :: .ref (1100 + i) :: st) M P := by
  intro p e s m args below meth c H locs R lj C9 hR hM hL hl
  have h9 := kk p e s m args below meth c H locs R lj C9 hR hM hL hl
  rw [List.map_cons, pb_up1 (by omega)]
  obtain ⟨cell, h1, h2, h3, h4, h5, h6, h7⟩ := ((C9.2.2.2.2.2.1.2.2.2.1).1 i hi).2.2.2.kept hM.old
  have hlt : x.toNatClampNeg < ([137, 8] : List Nat).getD i 0 := Nat.not_le.mp fun q => hin (Or.inr q)
  have hin' : ¬ (x < 0 ∨ cell.slots.size ≤ x.toNatClampNeg) := by
    intro q
    rcases q with q | q
    · exact hin (Or.inl q)
    · omega
  exact W.bald (v := .int ((([pg_words, pg_signs] : List (List Int32)).getD i []).getD x.toNatClampNeg 0)) C9.1 C9.2.1 h1 h2 h3 hin' (h6 _ hlt) rfl rfl hdg h9
theorem pb_blen {i : Nat} (hi : i < 2) (hdg : decode Y.2.1 pc = .ok (.arraylength, 1)) (kk : pb_At S Λ Y d (pc + 1) ls (.int (Int32.ofNat (([137, 8] : List Nat).getD i 0)) :: st) M P) : pb_At S Λ Y d pc ls (.ref (1100 + i) :: st) M P := by
  intro p e s m args below meth c H locs R lj C9 hR hM hL hl
  have h9 := kk p e s m args below meth c H locs R lj C9 hR hM hL hl
  rw [pb_up1 (by omega)]
  obtain ⟨cell, h1, h2, h3, h4, h5, h6, h7⟩ := ((C9.2.2.2.2.2.1.2.2.2.1).1 i hi).2.2.2.kept hM.old
  exact W.alen (n := Int32.ofNat (([137, 8] : List Nat).getD i 0)) C9.1 C9.2.1 h1 h2 h5 rfl rfl hdg h9
theorem pb_recv {i : Nat} {s : State} {H : Heap} (hi : i < 2) (hK : pg_K S s) (hM : pg_R S Λ M H) : ∃ cell : Cell, H[pg_ad S (1000 + i)]? = some cell ∧ cell.vm.isStatics = false ∧ s.vm.findClass "java/lang/String" = some cell.cls := by
  obtain ⟨cell, h1, h2, h3, -⟩ := ((hK.2.2.2.1).1 i hi).1.kept hM.old
  exact ⟨cell, by rw [show pg_ad S (1000 + i) = S.2.2.2.2.1 (1000 + i) by simp [pg_ad, show ¬ 1000 + i < 1000 by omega]]; exact h1, h2, h3⟩
theorem pb_callO {Y' : pg_Y} {d' index i : Nat} {As : List Value} {P' : Option Value → pg_M → Prop} (hi : i < 2) (ok : pg_okV Y') (hlink : Cond.methodLink Y.1.cls index Y'.1 ∈ pg_gd) (hn : (parseMethodDescriptor Y'.1.desc).map (fun d => d.parameters.length) = some As.length) (hcl : Y'.1.cls = "java/lang/String") (hdd : d' + 1 ≤ d) (hst : (st.map fun v => v.category).sum ≤ 8)
    (hE : pb_Ev S Λ Y' d' (.ref (1000 + i) :: As) M P') (hdg : decode Y.2.1 pc = .ok (.invokevirtual index, 3)) (kk : ∀ r M', P' r M' → pb_At S Λ Y d (pc + 3) ls (r.toList ++ st) M' P) : pb_At S Λ Y d pc ls (As.reverse ++ .ref (1000 + i) :: st) M P := by
  intro p e s m args below meth c H locs R lj C9 hR hM hL hl
  obtain ⟨o1, o2, o3, o4, o5, o6, o7⟩ := ok
  have hM9 := hE ({ frames := d', cells := 0, slots := 0, locals := 64 * d' } : Room) (Nat.le_refl _) (Nat.le_refl _) rfl rfl
  refine pb_goon (As := (Value.ref (pg_ad S (1000 + i)) :: As.map (pg_up S)).toArray) C9 hR hL hl ?_ kk
  refine va_runV (As := As.map (pg_up S)) (b := pg_ad S (1000 + i)) (C := Y'.1.cls) (n := As.length) ⟨C9.1, C9.2.1, C9.2.2.1, C9.2.2.2.1, C9.2.2.2.2.1⟩ hM9 (cwV As.length C9.2.2.2.2.1 (fun w hw => ?_) rfl rfl rfl ⟨rfl, o5, o6, hn⟩ ⟨by show d' + 1 ≤ R.frames; omega, by show 8 + (Y'.2.2.1 + 11) + 64 * d' ≤ R.locals; omega⟩) ⟨pg_blind, by rw [hcl]; exact pb_recv hi C9.2.2.2.2.2.1 hM, fun U hU hW => ⟨rfl, by rw [hU]; exact hM, pg_K.warm hW C9.2.2.2.2.2.1⟩⟩ rfl (by simp) hl.1 (by simp [pg_up]) (lv_room (by rw [List.map_map]; simpa [Function.comp_def, pg_up_cat] using hst)) hdg ⟨Nat.zero_le _, Nat.zero_le _⟩
  have hg := pg_good o4
  unfold wsV at hw
  rcases List.mem_append.mp hw with h | h
  · have : w ∈ pg_gd := by
      simp only [List.mem_cons, List.not_mem_nil, or_false] at h
      rcases h with rfl | rfl | rfl | rfl
      · exact hlink
      · exact o1
      · exact o2
      · exact o3
    exact hg w (List.mem_cons_of_mem _ this)
  · exact hg w h
/-- the same call from the face with frames in hand -/
theorem pg_callO {Y' : pg_Y} {index i : Nat} {As : List Value} {P' : Option Value → pg_M → Prop} (hi : i < 2) (ok : pg_okV Y') (hlink : Cond.methodLink Y.1.cls index Y'.1 ∈ pg_gd) (hn : (parseMethodDescriptor Y'.1.desc).map (fun d => d.parameters.length) = some As.length) (hcl : Y'.1.cls = "java/lang/String") (hst : (st.map fun v => v.category).sum ≤ 8)
    (hE : pb_Ev S Λ Y' 8 (.ref (1000 + i) :: As) M P') (hdg : decode Y.2.1 pc = .ok (.invokevirtual index, 3)) (kk : ∀ r M', P' r M' → pg_At S Λ Y (d + 1) (pc + 3) ls (r.toList ++ st) M' P) : pg_At S Λ Y (d + 1) pc ls (As.reverse ++ .ref (1000 + i) :: st) M P := by
  intro p e s m args below meth c H locs R lj C9 hR hM hL hl
  obtain ⟨o1, o2, o3, o4, o5, o6, o7⟩ := ok
  have hM9 := hE ({ frames := 8, cells := 0, slots := 0, locals := 512 } : Room) (Nat.le_refl _) (Nat.le_refl _) rfl rfl
  refine pg_goon (As := (Value.ref (pg_ad S (1000 + i)) :: As.map (pg_up S)).toArray) C9 hR hL hl ?_ kk
  refine va_runV (As := As.map (pg_up S)) (b := pg_ad S (1000 + i)) (C := Y'.1.cls) (n := As.length) ⟨C9.1, C9.2.1, C9.2.2.1, C9.2.2.2.1, C9.2.2.2.2.1⟩ hM9 (cwV As.length C9.2.2.2.2.1 (fun w hw => ?_) rfl rfl rfl ⟨rfl, o5, o6, hn⟩ ⟨by show 8 + 1 ≤ R.frames; omega, by show 8 + (Y'.2.2.1 + 11) + 512 ≤ R.locals; omega⟩) ⟨pg_blind, by rw [hcl]; exact pb_recv hi C9.2.2.2.2.2.1 hM, fun U hU hW => ⟨rfl, by rw [hU]; exact hM, pg_K.warm hW C9.2.2.2.2.2.1⟩⟩ rfl (by simp) hl.1 (by simp [pg_up]) (lv_room (by rw [List.map_map]; simpa [Function.comp_def, pg_up_cat] using hst)) hdg ⟨Nat.zero_le _, Nat.zero_le _⟩
  have hg := pg_good o4
  unfold wsV at hw
  rcases List.mem_append.mp hw with h | h
  · have : w ∈ pg_gd := by
      simp only [List.mem_cons, List.not_mem_nil, or_false] at h
      rcases h with rfl | rfl | rfl | rfl
      · exact hlink
      · exact o1
      · exact o2
      · exact o3
    exact hg w (List.mem_cons_of_mem _ this)
  · exact hg w h
end PBO
theorem tx_J3_0 : decode cJ3_checkIndex_8e157 0 = .ok (.iload_n 0, 1) := by decide +kernel
theorem tx_J3_1 : decode cJ3_checkIndex_8e157 1 = .ok (.ifCond .lt 8, 3) := by decide +kernel
theorem tx_J3_4 : decode cJ3_checkIndex_8e157 4 = .ok (.iload_n 0, 1) := by decide +kernel
theorem tx_J3_5 : decode cJ3_checkIndex_8e157 5 = .ok (.iload_n 1, 1) := by decide +kernel
theorem tx_J3_6 : decode cJ3_checkIndex_8e157 6 = .ok (.if_icmp .lt 10, 3) := by decide +kernel
theorem tx_J3_16 : decode cJ3_checkIndex_8e157 16 = .ok (.iload_n 0, 1) := by decide +kernel
theorem tx_J3_17 : decode cJ3_checkIndex_8e157 17 = .ok (.ireturn, 1) := by decide +kernel
section PBT
variable {S : pg_S} {Λ : pg_L} {d : Nat} {M : pg_M}
theorem tx_coder {i : Nat} (hi : i < 2) : pb_Ev S Λ YJ0_coder_7d493 d [.ref (1000 + i)] M (fun r M' => r = some (.int 0) ∧ M' = M) := by
  refine pb_Ev.of (by decide) (Nat.le_of_ble_eq_true rfl) ?_
  show pb_At S Λ YJ0_coder_7d493 d 0 [(0, .ref (1000 + i))] [] M _
  refine pb_gcs (pc := 0) pb_fcs dJ0_coder_7d493_0 ?_
  refine pb_if_eq (pc := 3) (tgt := 13) dJ0_coder_7d493_3 (by decide) (fun h => absurd h (by decide)) (fun _ => ?_)
  refine pb_aload_n (pc := 6) (i := 0) (j := 0) (x := 1000 + i) dJ0_coder_7d493_6 rfl rfl ?_
  refine pb_gcod (pc := 7) hi pb_fcod dJ0_coder_7d493_7 ?_
  refine pb_goto (pc := 10) (tgt := 14) dJ0_coder_7d493_10 (by decide) ?_
  exact pb_zret (pc := 14) (ty := .byte) rfl rfl dJ0_coder_7d493_14 ⟨rfl, rfl⟩
theorem tx_lat {i : Nat} (hi : i < 2) : pb_Ev S Λ YJ0_isLatin1_aae02 d [.ref (1000 + i)] M (fun r M' => r = some (.int 1) ∧ M' = M) := by
  refine pb_Ev.of (by decide) (Nat.le_of_ble_eq_true rfl) ?_
  show pb_At S Λ YJ0_isLatin1_aae02 d 0 [(0, .ref (1000 + i))] [] M _
  refine pb_gcs (pc := 0) pb_fcs dJ0_isLatin1_aae02_0 ?_
  refine pb_if_eq (pc := 3) (tgt := 17) dJ0_isLatin1_aae02_3 (by decide) (fun h => absurd h (by decide)) (fun _ => ?_)
  refine pb_aload_n (pc := 6) (i := 0) (j := 0) (x := 1000 + i) dJ0_isLatin1_aae02_6 rfl rfl ?_
  refine pb_gcod (pc := 7) hi pb_fcod dJ0_isLatin1_aae02_7 ?_
  refine pb_if_ne (pc := 10) (tgt := 17) dJ0_isLatin1_aae02_10 (by decide) (fun h => absurd rfl h) (fun _ => ?_)
  refine pb_iconst (pc := 13) (v := 1) dJ0_isLatin1_aae02_13 rfl ?_
  refine pb_goto (pc := 14) (tgt := 18) dJ0_isLatin1_aae02_14 (by decide) ?_
  exact pb_zret (pc := 18) (ty := .boolean) rfl rfl dJ0_isLatin1_aae02_18 ⟨rfl, rfl⟩
theorem tx_shr : ∀ i : Nat, i < 2 → Int32.ofNat (([137, 8] : List Nat).getD i 0) >>> ((0 : Int32) &&& 31) = Int32.ofNat (([137, 8] : List Nat).getD i 0) := by decide +kernel
theorem tx_length {i : Nat} (hi : i < 2) : pb_Ev S Λ YJ0_length_8abf5 (d + 1) [.ref (1000 + i)] M (fun r M' => r = some (.int (Int32.ofNat (([137, 8] : List Nat).getD i 0))) ∧ M' = M) := by
  refine pb_Ev.of (by decide) (Nat.le_of_ble_eq_true rfl) ?_
  show pb_At S Λ YJ0_length_8abf5 (d + 1) 0 [(0, .ref (1000 + i))] [] M _
  refine pb_aload_n (pc := 0) (i := 0) (j := 0) (x := 1000 + i) dJ0_length_8abf5_0 rfl rfl ?_
  refine pb_gval (pc := 1) hi pb_fval dJ0_length_8abf5_1 ?_
  refine pb_blen (pc := 4) hi dJ0_length_8abf5_4 ?_
  refine pb_aload_n (pc := 5) (i := 0) (j := 0) (x := 1000 + i) dJ0_length_8abf5_5 rfl rfl ?_
  refine pb_callO (pc := 6) (As := []) hi okJ0_coder_7d493 lkJ0_335 rfl rfl (Nat.le_refl _) (by show 1 ≤ 8; omega) (tx_coder hi) dJ0_length_8abf5_6 (fun r M' w => ?_)
  obtain ⟨rfl, rfl⟩ := w
  refine pb_ishr (pc := 9) dJ0_length_8abf5_9 ?_
  exact pb_iret (pc := 10) rfl dJ0_length_8abf5_10 ⟨by rw [tx_shr i hi], rfl⟩
theorem tx_ck3 {x n : Int32} {v : Value} (h0 : ¬ x < 0) (h1 : x < n) (hv : v = .null ∨ v = .ref 1200) : pb_Ev S Λ YJ3_checkIndex_8e157 d [.int x, .int n, v] M (fun r M' => r = some (.int x) ∧ M' = M) := by
  have e1 : (lg_sl [.int x, .int n, v]).length = 3 := by rcases hv with rfl | rfl <;> rfl
  refine pb_Ev.of (by decide) (by rw [e1]; exact Nat.le_refl 3) ?_
  show pb_At S Λ YJ3_checkIndex_8e157 d 0 ((0, .int x) :: (1, .int n) :: lv_args 2 [v]) [] M _
  refine pb_iload_n (pc := 0) (i := 0) (j := 0) (x := x) tx_J3_0 rfl rfl ?_
  refine pb_if_lt (pc := 1) (tgt := 9) tx_J3_1 (by decide) (fun h => absurd h h0) (fun _ => ?_)
  refine pb_iload_n (pc := 4) (i := 0) (j := 0) (x := x) tx_J3_4 rfl rfl ?_
  refine pb_iload_n (pc := 5) (i := 1) (j := 1) (x := n) tx_J3_5 rfl rfl ?_
  refine pb_icmp_lt (pc := 6) (tgt := 16) tx_J3_6 (by decide) (fun _ => ?_) (fun h => absurd h1 h)
  refine pb_iload_n (pc := 16) (i := 0) (j := 0) (x := x) tx_J3_16 rfl rfl ?_
  exact pb_iret (pc := 17) rfl tx_J3_17 ⟨rfl, rfl⟩
theorem tx_ck {x n : Int32} (h0 : ¬ x < 0) (h1 : x < n) : pb_Ev S Λ YJ0_checkIndex_df160 (d + 1) [.int x, .int n] M (fun r M' => r = none ∧ M' = M) := by
  refine pb_Ev.of (by decide) (Nat.le_of_ble_eq_true rfl) ?_
  show pb_At S Λ YJ0_checkIndex_df160 (d + 1) 0 [(0, .int x), (1, .int n)] [] M _
  refine pb_iload_n (pc := 0) (i := 0) (j := 0) (x := x) dJ0_checkIndex_df160_0 rfl rfl ?_
  refine pb_iload_n (pc := 1) (i := 1) (j := 1) (x := n) dJ0_checkIndex_df160_1 rfl rfl ?_
  refine pb_gsio (pc := 2) pb_fsio dJ0_checkIndex_df160_2 (fun v hv => ?_)
  have hc : v.category = 1 := by rcases hv with rfl | rfl <;> rfl
  refine pb_callS (pc := 5) (As := [.int x, .int n, v]) (st := []) okJ3_checkIndex_8e157 lkJ0_1059 rfl (Nat.le_refl _) (by decide) (tx_ck3 h0 h1 hv) dJ0_checkIndex_df160_5 (fun r M' w => ?_)
  obtain ⟨rfl, rfl⟩ := w
  refine pb_pop (pc := 8) dJ0_checkIndex_df160_8 rfl ?_
  exact pb_vret (pc := 9) rfl dJ0_checkIndex_df160_9 ⟨rfl, rfl⟩
theorem tx_char : ∀ j : Nat, j < 137 → ((pg_words.getD j 0 &&& 255).toUInt32 % 65536).toInt32 = pg_words.getD j 0 := by decide +kernel
theorem tx_nar : ∀ j : Nat, j < 137 → (((pg_words.getD j 0).toUInt32 % 65536).toInt32) = pg_words.getD j 0 := by decide +kernel
theorem tx_charAt1 {x : Int32} (hx : vp_in x 137) : pb_Ev S Λ YJ1_charAt_3b067 (d + 2) [.ref 1100, .int x] M (fun r M' => r = some (.int (pg_words.getD x.toNatClampNeg 0)) ∧ M' = M) := by
  have hlt : x.toNatClampNeg < 137 := Nat.not_le.mp fun q => hx (Or.inr q)
  have h0 : ¬ x < 0 := fun q => hx (Or.inl q)
  have h1 : x < Int32.ofNat 137 := by
    rw [Int32.lt_iff_toInt_lt]
    have a : (Int32.ofNat 137).toInt = 137 := by decide
    have b : x.toInt.toNat < 137 := hlt
    rw [a]
    omega
  refine pb_Ev.of (by decide) (Nat.le_of_ble_eq_true rfl) ?_
  show pb_At S Λ YJ1_charAt_3b067 (d + 2) 0 [(0, .ref (1100 + 0)), (1, .int x)] [] M _
  refine pb_iload_n (pc := 0) (i := 1) (j := 1) (x := x) dJ1_charAt_3b067_0 rfl rfl ?_
  refine pb_aload_n (pc := 1) (i := 0) (j := 0) (x := 1100 + 0) dJ1_charAt_3b067_1 rfl rfl ?_
  refine pb_blen (pc := 2) (i := 0) (by decide) dJ1_charAt_3b067_2 ?_
  refine pb_callS (pc := 3) (As := [.int x, .int (Int32.ofNat 137)]) (st := []) okJ0_checkIndex_df160 lkJ1_9 rfl (Nat.le_refl _) (by decide) (tx_ck h0 h1) dJ1_charAt_3b067_3 (fun r M' w => ?_)
  obtain ⟨rfl, rfl⟩ := w
  refine pb_aload_n (pc := 6) (i := 0) (j := 0) (x := 1100 + 0) dJ1_charAt_3b067_6 rfl rfl ?_
  refine pb_iload_n (pc := 7) (i := 1) (j := 1) (x := x) dJ1_charAt_3b067_7 rfl rfl ?_
  refine pb_bald (pc := 8) (i := 0) (by decide) hx dJ1_charAt_3b067_8 ?_
  rw [List.getD_cons_zero]
  have ew := tx_char _ hlt
  have en := tx_nar _ hlt
  generalize pg_words.getD x.toNatClampNeg 0 = y at ew en ⊢
  refine pb_sipush (pc := 9) (v := 255) dJ1_charAt_3b067_9 rfl ?_
  refine pb_iand (pc := 12) dJ1_charAt_3b067_12 ?_
  refine pb_i2c (pc := 13) (v := y) dJ1_charAt_3b067_13 ew ?_
  exact pb_zret (pc := 14) (ty := .char) rfl (congrArg Value.int en) dJ1_charAt_3b067_14 ⟨rfl, rfl⟩
theorem tx_charAt {x : Int32} (hx : vp_in x 137) : pb_Ev S Λ YJ0_charAt_5068e (d + 3) [.ref (1000 + 0), .int x] M (fun r M' => r = some (.int (pg_words.getD x.toNatClampNeg 0)) ∧ M' = M) := by
  have hlt : x.toNatClampNeg < 137 := Nat.not_le.mp fun q => hx (Or.inr q)
  refine pb_Ev.of (by decide) (Nat.le_of_ble_eq_true rfl) ?_
  show pb_At S Λ YJ0_charAt_5068e (d + 3) 0 [(0, .ref (1000 + 0)), (1, .int x)] [] M _
  refine pb_aload_n (pc := 0) (i := 0) (j := 0) (x := 1000 + 0) dJ0_charAt_5068e_0 rfl rfl ?_
  refine pb_callO (pc := 1) (As := []) (i := 0) (st := []) (by decide) okJ0_isLatin1_aae02 lkJ0_492 rfl rfl (Nat.le_refl _) (by decide) (tx_lat (by decide)) dJ0_charAt_5068e_1 (fun r M' w => ?_)
  obtain ⟨rfl, rfl⟩ := w
  refine pb_if_eq (pc := 4) (tgt := 16) dJ0_charAt_5068e_4 (by decide) (fun h => absurd h (by decide)) (fun _ => ?_)
  refine pb_aload_n (pc := 7) (i := 0) (j := 0) (x := 1000 + 0) dJ0_charAt_5068e_7 rfl rfl ?_
  refine pb_gval (pc := 8) (i := 0) (by decide) pb_fval dJ0_charAt_5068e_8 ?_
  refine pb_iload_n (pc := 11) (i := 1) (j := 1) (x := x) dJ0_charAt_5068e_11 rfl rfl ?_
  refine pb_callS (pc := 12) (As := [.ref (1100 + 0), .int x]) (st := []) okJ1_charAt_3b067 lkJ0_495 rfl (Nat.le_refl _) (by decide) (tx_charAt1 hx) dJ0_charAt_5068e_12 (fun r M' w => ?_)
  obtain ⟨rfl, rfl⟩ := w
  exact pb_zret (pc := 15) (ty := .char) rfl (congrArg Value.int (tx_nar _ hlt)) dJ0_charAt_5068e_15 ⟨rfl, rfl⟩
/-- where a sign stands among those of the text from place j on -/
def tx_ix (b : Int32) : Nat → Nat → Int32
  | 0, _ => -1
  | n + 1, j => if pg_signs.getD j 0 = b then Int32.ofNat j else tx_ix b n (j + 1)
theorem tx_loop {x b : Int32} : ∀ (n j : Nat), n + j = 8 → pb_At S Λ YJ1_indexOfChar_4cfef d 7 [(5, .int (Int32.ofNat j)), (4, .int b), (0, .ref (1100 + 1)), (1, .int x), (2, .int 0), (3, .int (Int32.ofNat 8))] [] M (fun r M' => r = some (.int (tx_ix b n j)) ∧ M' = M) := by
  intro n
  induction n with
  | zero =>
    intro j hj
    obtain rfl : j = 8 := by omega
    refine pb_iload (pc := 7) (i := 5) (j := 0) (x := Int32.ofNat 8) dJ1_indexOfChar_4cfef_7 rfl ?_
    refine pb_iload_n (pc := 9) (i := 3) (j := 5) (x := Int32.ofNat 8) dJ1_indexOfChar_4cfef_9 rfl rfl ?_
    refine pb_icmp_ge (pc := 10) (tgt := 31) dJ1_indexOfChar_4cfef_10 (by decide) (fun _ => ?_) (fun h => absurd (by decide) h)
    refine pb_iconst (pc := 31) (v := -1) dJ1_indexOfChar_4cfef_31 rfl ?_
    exact pb_iret (pc := 32) rfl dJ1_indexOfChar_4cfef_32 ⟨rfl, rfl⟩
  | succ n ih =>
    intro j hj
    have hj8 : j < 8 := by omega
    have f1 : ∀ j : Nat, j < 8 → ¬ Int32.ofNat 8 ≤ Int32.ofNat j := by decide +kernel
    have f2 : ∀ j : Nat, j < 8 → vp_in (Int32.ofNat j) 8 := by unfold vp_in; decide +kernel
    have f3 : ∀ j : Nat, j < 8 → (Int32.ofNat j).toNatClampNeg = j := by decide +kernel
    have f4 : ∀ j : Nat, j < 8 → Int32.ofNat j + Int32.ofInt 1 = Int32.ofNat (j + 1) := by decide +kernel
    refine pb_iload (pc := 7) (i := 5) (j := 0) (x := Int32.ofNat j) dJ1_indexOfChar_4cfef_7 rfl ?_
    refine pb_iload_n (pc := 9) (i := 3) (j := 5) (x := Int32.ofNat 8) dJ1_indexOfChar_4cfef_9 rfl rfl ?_
    refine pb_icmp_ge (pc := 10) (tgt := 31) dJ1_indexOfChar_4cfef_10 (by decide) (fun h => absurd h (f1 j hj8)) (fun _ => ?_)
    refine pb_aload_n (pc := 13) (i := 0) (j := 2) (x := 1100 + 1) dJ1_indexOfChar_4cfef_13 rfl rfl ?_
    refine pb_iload (pc := 14) (i := 5) (j := 0) (x := Int32.ofNat j) dJ1_indexOfChar_4cfef_14 rfl ?_
    refine pb_bald (pc := 16) (i := 1) (by decide) (f2 j hj8) dJ1_indexOfChar_4cfef_16 ?_
    refine pb_iload (pc := 17) (i := 4) (j := 1) (x := b) dJ1_indexOfChar_4cfef_17 rfl ?_
    refine pb_icmp_ne (pc := 19) (tgt := 25) dJ1_indexOfChar_4cfef_19 (by decide) (fun h => ?_) (fun h => ?_)
    · rw [f3 j hj8] at h
      refine pb_iinc (pc := 25) (i := 5) (j := 0) (x := Int32.ofNat j) (v := Int32.ofNat (j + 1)) dJ1_indexOfChar_4cfef_25 rfl (f4 j hj8) (by decide) rfl ?_
      refine pb_goto (pc := 28) (tgt := 7) dJ1_indexOfChar_4cfef_28 (by decide) ?_
      have h9 := ih (j + 1) (by omega)
      rw [tx_ix, if_neg (show ¬ pg_signs.getD j 0 = b from h)]
      exact h9
    · rw [f3 j hj8] at h
      refine pb_iload (pc := 22) (i := 5) (j := 0) (x := Int32.ofNat j) dJ1_indexOfChar_4cfef_22 rfl ?_
      exact pb_iret (pc := 24) rfl dJ1_indexOfChar_4cfef_24 ⟨by rw [tx_ix, if_pos (show pg_signs.getD j 0 = b from h)], rfl⟩
theorem tx_ixc {x : Int32} : pb_Ev S Λ YJ1_indexOfChar_4cfef d [.ref (1100 + 1), .int x, .int 0, .int (Int32.ofNat 8)] M (fun r M' => r = some (.int (tx_ix x.toInt8.toInt32 8 0)) ∧ M' = M) := by
  refine pb_Ev.of (by decide) (Nat.le_of_ble_eq_true rfl) ?_
  show pb_At S Λ YJ1_indexOfChar_4cfef d 0 [(0, .ref (1100 + 1)), (1, .int x), (2, .int 0), (3, .int (Int32.ofNat 8))] [] M _
  refine pb_iload_n (pc := 0) (i := 1) (j := 1) (x := x) dJ1_indexOfChar_4cfef_0 rfl rfl ?_
  refine pb_i2b (pc := 1) (v := x.toInt8.toInt32) dJ1_indexOfChar_4cfef_1 rfl ?_
  refine pb_istore (pc := 2) (i := 4) dJ1_indexOfChar_4cfef_2 (by decide) rfl ?_
  refine pb_iload_n (pc := 4) (i := 2) (j := 3) (x := 0) dJ1_indexOfChar_4cfef_4 rfl rfl ?_
  refine pb_istore (pc := 5) (i := 5) dJ1_indexOfChar_4cfef_5 (by decide) rfl ?_
  exact tx_loop 8 0 rfl
theorem tx_sgx : ∀ n : Nat, n < 256 → tx_ix (Int32.ofNat n).toInt8.toInt32 8 0 = pg_sgx (Int32.ofNat n) := by decide +kernel
theorem tx_sgn {x : Int32} (h : x < 0 ∨ 255 < x) : pg_sgx x = -1 := by
  have h9 : ∀ c : Int32, (¬ c < 0 ∧ ¬ 255 < c) → ¬ x = c := by
    rintro c ⟨a, b⟩ rfl
    exact h.elim a b
  simp only [pg_sgx, h9 40 (by decide), h9 41 (by decide), h9 60 (by decide), h9 61 (by decide), h9 43 (by decide), h9 45 (by decide), h9 42 (by decide), h9 59 (by decide), if_false]
theorem tx_enc {x : Int32} : pb_Ev S Λ YJ1_canEncode_9a6ad d [.int x] M (fun r M' => r = some (.int (if x < 0 ∨ 255 < x then 0 else 1)) ∧ M' = M) := by
  refine pb_Ev.of (by decide) (Nat.le_of_ble_eq_true rfl) ?_
  show pb_At S Λ YJ1_canEncode_9a6ad d 0 [(0, .int x)] [] M _
  refine pb_iload_n (pc := 0) (i := 0) (j := 0) (x := x) dJ1_canEncode_9a6ad_0 rfl rfl ?_
  refine pb_if_lt (pc := 1) (tgt := 15) dJ1_canEncode_9a6ad_1 (by decide) (fun h => ?_) (fun h => ?_)
  · refine pb_iconst (pc := 15) (v := 0) dJ1_canEncode_9a6ad_15 rfl ?_
    exact pb_zret (pc := 16) (ty := .boolean) rfl rfl dJ1_canEncode_9a6ad_16 ⟨by rw [if_pos (Or.inl h)], rfl⟩
  · refine pb_iload_n (pc := 4) (i := 0) (j := 0) (x := x) dJ1_canEncode_9a6ad_4 rfl rfl ?_
    refine pb_sipush (pc := 5) (v := 255) dJ1_canEncode_9a6ad_5 rfl ?_
    refine pb_icmp_gt (pc := 8) (tgt := 15) dJ1_canEncode_9a6ad_8 (by decide) (fun h2 => ?_) (fun h2 => ?_)
    · refine pb_iconst (pc := 15) (v := 0) dJ1_canEncode_9a6ad_15 rfl ?_
      exact pb_zret (pc := 16) (ty := .boolean) rfl rfl dJ1_canEncode_9a6ad_16 ⟨by rw [if_pos (Or.inr h2)], rfl⟩
    · refine pb_iconst (pc := 11) (v := 1) dJ1_canEncode_9a6ad_11 rfl ?_
      refine pb_goto (pc := 12) (tgt := 16) dJ1_canEncode_9a6ad_12 (by decide) ?_
      exact pb_zret (pc := 16) (ty := .boolean) rfl rfl dJ1_canEncode_9a6ad_16 ⟨by rw [if_neg (by rintro (q | q); exact h q; exact h2 q)], rfl⟩
theorem tx_ix4 {x : Int32} : pb_Ev S Λ YJ1_indexOf_4cfef (d + 1) [.ref (1100 + 1), .int x, .int 0, .int (Int32.ofNat 8)] M (fun r M' => r = some (.int (pg_sgx x)) ∧ M' = M) := by
  refine pb_Ev.of (by decide) (Nat.le_of_ble_eq_true rfl) ?_
  show pb_At S Λ YJ1_indexOf_4cfef (d + 1) 0 [(0, .ref (1100 + 1)), (1, .int x), (2, .int 0), (3, .int (Int32.ofNat 8))] [] M _
  refine pb_iload_n (pc := 0) (i := 1) (j := 1) (x := x) dJ1_indexOf_4cfef_0 rfl rfl ?_
  refine pb_callS (pc := 1) (As := [.int x]) (st := []) okJ1_canEncode_9a6ad lkJ1_88 rfl (Nat.le_refl _) (by decide) tx_enc dJ1_indexOf_4cfef_1 (fun r M' w => ?_)
  obtain ⟨rfl, rfl⟩ := w
  by_cases hx : x < 0 ∨ 255 < x
  · rw [if_pos hx]
    refine pb_if_ne (pc := 4) (tgt := 9) dJ1_indexOf_4cfef_4 (by decide) (fun h => absurd rfl h) (fun _ => ?_)
    refine pb_iconst (pc := 7) (v := -1) dJ1_indexOf_4cfef_7 rfl ?_
    exact pb_iret (pc := 8) rfl dJ1_indexOf_4cfef_8 ⟨by rw [tx_sgn hx], rfl⟩
  · rw [if_neg hx]
    refine pb_if_ne (pc := 4) (tgt := 9) dJ1_indexOf_4cfef_4 (by decide) (fun _ => ?_) (fun h => absurd h (by decide))
    refine pb_iload_n (pc := 9) (i := 2) (j := 2) (x := 0) dJ1_indexOf_4cfef_9 rfl rfl ?_
    refine pb_iconst (pc := 10) (v := 0) dJ1_indexOf_4cfef_10 rfl ?_
    refine pb_jmax (pc := 11) lkJ1_92 (by decide) dJ1_indexOf_4cfef_11 ?_
    refine pb_istore_n (pc := 14) (i := 2) dJ1_indexOf_4cfef_14 rfl (by decide) rfl ?_
    refine pb_iload_n (pc := 15) (i := 3) (j := 3) (x := Int32.ofNat 8) dJ1_indexOf_4cfef_15 rfl rfl ?_
    refine pb_aload_n (pc := 16) (i := 0) (j := 1) (x := 1100 + 1) dJ1_indexOf_4cfef_16 rfl rfl ?_
    refine pb_blen (pc := 17) (i := 1) (by decide) dJ1_indexOf_4cfef_17 ?_
    refine pb_jmin (pc := 18) lkJ1_38 (by decide) dJ1_indexOf_4cfef_18 ?_
    refine pb_istore_n (pc := 21) (i := 3) dJ1_indexOf_4cfef_21 rfl (by decide) rfl ?_
    show pb_At S Λ YJ1_indexOf_4cfef (d + 1) 22 [(3, .int (Int32.ofNat 8)), (2, .int 0), (0, .ref (1100 + 1)), (1, .int x)] [] _ _
    refine pb_iload_n (pc := 22) (i := 2) (j := 1) (x := 0) dJ1_indexOf_4cfef_22 rfl rfl ?_
    refine pb_iload_n (pc := 23) (i := 3) (j := 0) (x := Int32.ofNat 8) dJ1_indexOf_4cfef_23 rfl rfl ?_
    refine pb_icmp_lt (pc := 24) (tgt := 29) dJ1_indexOf_4cfef_24 (by decide) (fun _ => ?_) (fun h => absurd (by decide) h)
    refine pb_aload_n (pc := 29) (i := 0) (j := 2) (x := 1100 + 1) dJ1_indexOf_4cfef_29 rfl rfl ?_
    refine pb_iload_n (pc := 30) (i := 1) (j := 3) (x := x) dJ1_indexOf_4cfef_30 rfl rfl ?_
    refine pb_iload_n (pc := 31) (i := 2) (j := 1) (x := 0) dJ1_indexOf_4cfef_31 rfl rfl ?_
    refine pb_iload_n (pc := 32) (i := 3) (j := 0) (x := Int32.ofNat 8) dJ1_indexOf_4cfef_32 rfl rfl ?_
    refine pb_callS (pc := 33) (As := [.ref (1100 + 1), .int x, .int 0, .int (Int32.ofNat 8)]) (st := []) okJ1_indexOfChar_4cfef lkJ1_95 rfl (Nat.le_refl _) (by decide) tx_ixc dJ1_indexOf_4cfef_33 (fun r M' w => ?_)
    obtain ⟨rfl, rfl⟩ := w
    have ex : x = Int32.ofNat x.toInt.toNat ∧ x.toInt.toNat < 256 := by
      have a : ¬ x.toInt < 0 := fun q => hx (Or.inl (Int32.lt_iff_toInt_lt.mpr (by simpa using q)))
      have b : ¬ 255 < x.toInt := fun q => hx (Or.inr (Int32.lt_iff_toInt_lt.mpr (by simpa using q)))
      refine ⟨Int32.toInt_inj.mp ?_, by omega⟩
      rw [Int32.toInt_ofNat_of_lt (by omega)]
      omega
    refine pb_iret (pc := 36) rfl dJ1_indexOf_4cfef_36 ⟨?_, rfl⟩
    rw [ex.1, tx_sgx _ ex.2]
theorem tx_ix2 {x : Int32} : pb_Ev S Λ YJ0_indexOf_7cf53 (d + 2) [.ref (1000 + 1), .int x, .int 0] M (fun r M' => r = some (.int (pg_sgx x)) ∧ M' = M) := by
  refine pb_Ev.of (by decide) (Nat.le_of_ble_eq_true rfl) ?_
  show pb_At S Λ YJ0_indexOf_7cf53 (d + 2) 0 [(0, .ref (1000 + 1)), (1, .int x), (2, .int 0)] [] M _
  refine pb_aload_n (pc := 0) (i := 0) (j := 0) (x := 1000 + 1) dJ0_indexOf_7cf53_0 rfl rfl ?_
  refine pb_callO (pc := 1) (As := []) (i := 1) (st := []) (by decide) okJ0_isLatin1_aae02 lkJ0_492 rfl rfl (Nat.le_refl _) (by decide) (tx_lat (by decide)) dJ0_indexOf_7cf53_1 (fun r M' w => ?_)
  obtain ⟨rfl, rfl⟩ := w
  refine pb_if_eq (pc := 4) (tgt := 23) dJ0_indexOf_7cf53_4 (by decide) (fun h => absurd h (by decide)) (fun _ => ?_)
  refine pb_aload_n (pc := 7) (i := 0) (j := 0) (x := 1000 + 1) dJ0_indexOf_7cf53_7 rfl rfl ?_
  refine pb_gval (pc := 8) (i := 1) (by decide) pb_fval dJ0_indexOf_7cf53_8 ?_
  refine pb_iload_n (pc := 11) (i := 1) (j := 1) (x := x) dJ0_indexOf_7cf53_11 rfl rfl ?_
  refine pb_iload_n (pc := 12) (i := 2) (j := 2) (x := 0) dJ0_indexOf_7cf53_12 rfl rfl ?_
  refine pb_aload_n (pc := 13) (i := 0) (j := 0) (x := 1000 + 1) dJ0_indexOf_7cf53_13 rfl rfl ?_
  refine pb_callO (pc := 14) (As := []) (i := 1) (st := [.int 0, .int x, .ref (1100 + 1)]) (by decide) okJ0_length_8abf5 lkJ0_505 rfl rfl (Nat.le_refl _) (by show 3 ≤ 8; omega) (tx_length (by decide)) dJ0_indexOf_7cf53_14 (fun r M' w => ?_)
  obtain ⟨rfl, rfl⟩ := w
  refine pb_callS (pc := 17) (As := [.ref (1100 + 1), .int x, .int 0, .int (Int32.ofNat 8)]) (st := []) okJ1_indexOf_4cfef lkJ0_637 rfl (Nat.le_refl _) (by decide) tx_ix4 dJ0_indexOf_7cf53_17 (fun r M' w => ?_)
  obtain ⟨rfl, rfl⟩ := w
  refine pb_goto (pc := 20) (tgt := 36) dJ0_indexOf_7cf53_20 (by decide) ?_
  exact pb_iret (pc := 36) rfl dJ0_indexOf_7cf53_36 ⟨rfl, rfl⟩
theorem tx_ix1 {x : Int32} : pb_Ev S Λ YJ0_indexOf_0f7a4 (d + 3) [.ref (1000 + 1), .int x] M (fun r M' => r = some (.int (pg_sgx x)) ∧ M' = M) := by
  refine pb_Ev.of (by decide) (Nat.le_of_ble_eq_true rfl) ?_
  show pb_At S Λ YJ0_indexOf_0f7a4 (d + 3) 0 [(0, .ref (1000 + 1)), (1, .int x)] [] M _
  refine pb_aload_n (pc := 0) (i := 0) (j := 0) (x := 1000 + 1) dJ0_indexOf_0f7a4_0 rfl rfl ?_
  refine pb_iload_n (pc := 1) (i := 1) (j := 1) (x := x) dJ0_indexOf_0f7a4_1 rfl rfl ?_
  refine pb_iconst (pc := 2) (v := 0) dJ0_indexOf_0f7a4_2 rfl ?_
  refine pb_callO (pc := 3) (As := [.int x, .int 0]) (i := 1) (st := []) (by decide) okJ0_indexOf_7cf53 lkJ0_633 rfl rfl (Nat.le_refl _) (by decide) tx_ix2 dJ0_indexOf_0f7a4_3 (fun r M' w => ?_)
  obtain ⟨rfl, rfl⟩ := w
  exact pb_iret (pc := 6) rfl dJ0_indexOf_0f7a4_6 ⟨rfl, rfl⟩
end PBT
section PGT
variable {S : pg_S} {Λ : pg_L} {Y : pg_Y} {d pc index : Nat} {ls : List (Nat × Value)} {st : List Value} {M : pg_M} {P : Option Value → pg_M → Prop}
theorem pg_topi {x : Int32} (kk : ∀ y : Int32, y = x → pg_At S Λ Y d pc ls (.int y :: st) M P) : pg_At S Λ Y d pc ls (.int x :: st) M P := kk x rfl
theorem pg_topj {x : Int64} (kk : ∀ y : Int64, y = x → pg_At S Λ Y d pc ls (.long y :: st) M P) : pg_At S Λ Y d pc ls (.long x :: st) M P := kk x rfl
theorem pg_str0 : ("PegLaws$Reader", 231, "cloth wide weight worth pegs winds yards gusts clash pulls dries hang take wash buy hour plain sheet flag wool not and or wind mass size ", 1000) ∈ pg_strs := List.mem_cons_self
theorem pg_str1 : ("PegLaws$Reader", 223, "()<=+-*;", 1001) ∈ pg_strs := List.mem_cons_of_mem _ List.mem_cons_self
theorem pg_ldcS {q : Nat} {tx : String} (hq : (Y.1.cls, index, tx, q) ∈ pg_strs) (hq1 : 1000 ≤ q := by decide) (hdg : decode Y.2.1 pc = .ok (.ldc index, 2)) (kk : pg_At S Λ Y d (pc + 2) ls (.ref q :: st) M P) : pg_At S Λ Y d pc ls st M P := by
  intro p e s m args below meth c H locs R lj C9 hR hM hL hl
  have h9 := kk p e s m args below meth c H locs R lj C9 hR hM hL hl
  have e1 : (Value.ref q :: st).map (pg_up S) = .ref (S.2.2.2.2.1 q) :: st.map (pg_up S) := by
    simp [pg_up, pg_ad, Nat.not_lt.mpr hq1]
  rw [e1] at h9
  exact va_ldcS C9.1 C9.2.1 C9.2.2.2.1 (C9.2.2.2.2.2.1.2.2.1 _ hq) hdg h9
theorem pg_txlen (hlink : Cond.methodLink Y.1.cls index yJ0_length_8abf5 ∈ pg_gd) (hst : (st.map fun v => v.category).sum ≤ 8) (hdg : decode Y.2.1 pc = .ok (.invokevirtual index, 3)) (kk : pg_At S Λ Y (d + 1) (pc + 3) ls (.int pg_wlen :: st) M P) : pg_At S Λ Y (d + 1) pc ls (.ref 1000 :: st) M P :=
  pg_callO (i := 0) (As := []) (by decide) okJ0_length_8abf5 hlink rfl rfl hst (tx_length (d := 7) (by decide)) hdg (fun r M' w => by obtain ⟨rfl, rfl⟩ := w; exact kk)
theorem pg_txchar {i : Int32} (hlink : Cond.methodLink Y.1.cls index yJ0_charAt_5068e ∈ pg_gd) (hi : vp_in i 137) (hst : (st.map fun v => v.category).sum ≤ 8) (hdg : decode Y.2.1 pc = .ok (.invokevirtual index, 3)) (kk : pg_At S Λ Y (d + 1) (pc + 3) ls (.int (pg_wch i.toNatClampNeg) :: st) M P) : pg_At S Λ Y (d + 1) pc ls (.int i :: .ref 1000 :: st) M P :=
  pg_callO (i := 0) (As := [.int i]) (by decide) okJ0_charAt_5068e hlink rfl rfl hst (tx_charAt (d := 5) hi) hdg (fun r M' w => by obtain ⟨rfl, rfl⟩ := w; exact kk)
theorem pg_txidx {x : Int32} (hlink : Cond.methodLink Y.1.cls index yJ0_indexOf_0f7a4 ∈ pg_gd) (hst : (st.map fun v => v.category).sum ≤ 8) (hdg : decode Y.2.1 pc = .ok (.invokevirtual index, 3)) (kk : pg_At S Λ Y (d + 1) (pc + 3) ls (.int (pg_sgx x) :: st) M P) : pg_At S Λ Y (d + 1) pc ls (.int x :: .ref 1001 :: st) M P :=
  pg_callO (i := 1) (As := [.int x]) (by decide) okJ0_indexOf_0f7a4 hlink rfl rfl hst (tx_ix1 (d := 5)) hdg (fun r M' w => by obtain ⟨rfl, rfl⟩ := w; exact kk)
end PGT
