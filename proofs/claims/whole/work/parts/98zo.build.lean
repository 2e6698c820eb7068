/-! THE BUILDING FACE: a constructor at work. Its cells come in the order of their making; its own object is held as it stands (E), all that is whole as the layout and the memory say. -/
abbrev pn_E : Type := Nat → Option va_E
/-- E, own address, cells up to here, cells made, slots made, cells in all, slots in all, cells up to there at the end, what holds of the memory then -/
abbrev pn_B : Type := pn_E × Nat × Nat × Nat × Nat × Nat × Nat × Nat × (pg_M → Prop)
def pn_up (E : pn_E) (a : Nat) (o : va_E) : pn_E := fun b => if b = a then some o else E b
def pn_g (S : pg_S) (Λ : pg_L) (M : pg_M) (E : pn_E) (a n b : Nat) : Option va_E := if a ≤ b ∧ b < n then (match E b with | some o => some o | none => (Λ b).map (pg_ce S M b)) else none
def pn_R (S : pg_S) (Λ : pg_L) (M : pg_M) (E : pn_E) (a n c0 : Nat) (H0 H : Heap) : Prop :=
  (∀ (b : Nat) (o : va_E), pn_g S Λ M E a n b = some o → va_at S.2.2.1 pg_cls (pg_ad S b, o) H) ∧ (∀ q : Nat, q < S.2.1 + a → H[q]? = H0[q]?) ∧ H.size = S.2.1 + n ∧ n ≤ 1000 ∧ a < n ∧ (∀ b : Nat, n ≤ b → E b = none) ∧ (∀ q : Nat, q < S.2.1 → H0[q]? = S.2.2.2.2.2[q]?) ∧ H0.size + c0 = S.2.1 + n
def pn_Q (S : pg_S) (Λ : pg_L) (a nF : Nat) (PF : pg_M → Prop) : Array Value → State → Outcome → State → Prop := fun _ st o t =>
  o = .returned none ∧ ∃ M : pg_M, PF M ∧ (∀ (b : Nat) (d : pg_D), a ≤ b → b < nF → Λ b = some d → va_at S.2.2.1 pg_cls (pg_ad S b, pg_ce S M b d) t.heap) ∧ (∀ q : Nat, q < S.2.1 + a → t.heap[q]? = st.heap[q]?) ∧ t.heap.size = S.2.1 + nF
/-- what the tables say of the two kinds of arrays of objects -/
def pn_AO (U : State) : Prop := va_AO "PegLaws$State" U ∧ va_AO "PegLaws$Felt" U
theorem pn_AO.moved {u U : State} (hvm : u.vm.Alike U.vm) (h : pn_AO u) : pn_AO U := ⟨va_AO.moved hvm h.1, va_AO.moved hvm h.2⟩
def pn_P (S : pg_S) (a : Nat) (o : va_E) : Array Value → State → Prop := fun v U => v = #[.ref (pg_ad S a)] ∧ va_at S.2.2.1 pg_cls (pg_ad S a, o) U.heap ∧ U.heap.size = S.2.1 + (a + 1) ∧ (∀ q : Nat, q < S.2.1 → U.heap[q]? = S.2.2.2.2.2[q]?) ∧ pn_AO U ∧ pg_K S U
def pn_At (S : pg_S) (Λ : pg_L) (Y : pg_Y) (d pc : Nat) (ls : List (Nat × Value)) (st : List Value) (M : pg_M) (X : pn_B) : Prop :=
  ∀ (p : Program) (e : Env) (s : State) (m : MethodId) (args : Array Value) (below : List Frame) (meth : Method) (c : Code) (H : Heap) (locs : List Loc) (R : Room) (lj : Array Slot),
    pg_C S Y p s m args meth c → (d + 8 ≤ R.frames ∧ 64 * d + 512 ≤ R.locals ∧ X.2.2.2.2.2.1 ≤ R.cells ∧ X.2.2.2.2.2.2.1 ≤ R.slots ∧ meth.name = "<init>" ∧ pn_AO s) → pn_R S Λ M X.1 X.2.1 X.2.2.1 X.2.2.2.1 s.heap H → (∀ q ∈ locs, S.2.1 + X.2.1 ≤ q.base) → lv_has lj Y.2.2.1 (pg_ml S ls) →
    W p S.1 e R s m args below meth c H locs X.2.2.2.1 X.2.2.2.2.1 (MQ below (pn_Q S Λ X.2.1 X.2.2.2.2.2.2.2.1 X.2.2.2.2.2.2.2.2) args s X.2.2.2.2.2.1 X.2.2.2.2.2.2.1 (fun q => S.2.1 + X.2.1 ≤ q)) (F0 m pc lj (st.map (pg_up S)))
def pn_Ev (S : pg_S) (Λ : pg_L) (Y : pg_Y) (d a : Nat) (o : va_E) (mc ms nF : Nat) (PF : pg_M → Prop) : Prop :=
  ∀ rm : Room, d + 8 ≤ rm.frames → 64 * d + 512 ≤ rm.locals → rm.cells = mc → rm.slots = ms → Met S.1 Y.1 (Cond.code Y.1 Y.2.1 Y.2.2.1 none :: pg_gd) rm (pn_P S a o) (pn_Q S Λ a nF PF) mc ms (fun q => S.2.1 + a ≤ q)
theorem pn_Ev.of {S : pg_S} {Λ : pg_L} {Y : pg_Y} {d a mc ms nF : Nat} {o : va_E} {PF : pg_M → Prop} (M : pg_M) (hy : plainName Y.1.cls = true) (hnm : Y.1.name = "<init>") (hr : Y.2.2.2 = none) (ha : a < 1000) (hn : 1 ≤ Y.2.2.1) (h : pn_At S Λ Y d 0 [(0, .ref a)] [] M (pn_up (fun _ => none) a o, a, a + 1, 0, 0, mc, ms, nF, PF)) : pn_Ev S Λ Y d a o mc ms nF PF := by
  intro rm h1 h2 h3 h4
  refine Met.ofW (cc := Y.2.1) (maxL := Y.2.2.1) (ret := none) hy rfl ?_
  intro p e s m args below meth c s₁ B hml hv
  obtain ⟨rfl, hat, hsz, hlow, hao, hK⟩ := hv
  have hts := atoms_spec (ws := Cond.code Y.1 Y.2.1 Y.2.2.1 none :: pg_gd) B.pre
  have hl := lv_entry (([.ref a] : List Value).map (pg_up S)) (n := Y.2.2.1) (by rw [pg_sl]; exact hn)
  rw [pg_args] at hl
  have hin : meth.name = Y.1.name := (name_of_methodNamed B.named B.method).1
  rw [lg_entry_eq]
  refine h p e s m _ below meth c s.heap [] (headSpec (Cond.code Y.1 Y.2.1 Y.2.2.1 none :: pg_gd) rm).room _ ⟨B.exec, B.bytes, hml, findClass_of_methodNamed B.named, fun w hw => hts w (List.mem_cons_of_mem _ hw), hK, B.returns.trans hr.symm, B.notSynchronized⟩ ⟨h1, h2, Nat.le_of_eq h3.symm, Nat.le_of_eq h4.symm, hin.trans hnm, hao⟩ ⟨fun b o' hg => ?_, fun q _ => rfl, hsz, by show a + 1 ≤ 1000; omega, Nat.lt_succ_self a, fun b hb => ?_, hlow, hsz⟩ (fun q hq => by cases hq) hl
  · unfold pn_g at hg
    split at hg
    · rename_i hb
      have hb9 : a ≤ b ∧ b < a + 1 := hb
      obtain rfl : b = a := by omega
      simp only [pn_up, if_true] at hg
      cases Option.some.inj hg
      exact hat
    · cases hg
  · show (if b = a then some o else none) = none
    rw [if_neg (by show ¬ b = a; have : a + 1 ≤ b := hb; omega)]
section PNI
variable {S : pg_S} {Λ : pg_L} {Y : pg_Y} {d pc : Nat} {ls ls' : List (Nat × Value)} {st : List Value} {M : pg_M} {X : pn_B}
theorem pn_iconst {n : Int} {v : Int32} (hdg : decode Y.2.1 pc = .ok (.iconst n, 1)) (hv : Int32.ofInt n = v) (k : pn_At S Λ Y d (pc + 1) ls (.int v :: st) M X) : pn_At S Λ Y d pc ls (st) M X :=
  fun p e s m args below meth c H locs R lj C hR hM hL hl => lv_iconst C.1 C.2.1 hdg hv (k p e s m args below meth c H locs R lj C hR hM hL hl)
theorem pn_bipush {n : Int} {v : Int32} (hdg : decode Y.2.1 pc = .ok (.bipush n, 2)) (hv : (Int8.ofInt n).toInt32 = v) (k : pn_At S Λ Y d (pc + 2) ls (.int v :: st) M X) : pn_At S Λ Y d pc ls (st) M X :=
  fun p e s m args below meth c H locs R lj C hR hM hL hl => lv_bipush C.1 C.2.1 hdg hv (k p e s m args below meth c H locs R lj C hR hM hL hl)
theorem pn_sipush {n : Int} {v : Int32} (hdg : decode Y.2.1 pc = .ok (.sipush n, 3)) (hv : (Int16.ofInt n).toInt32 = v) (k : pn_At S Λ Y d (pc + 3) ls (.int v :: st) M X) : pn_At S Λ Y d pc ls (st) M X :=
  fun p e s m args below meth c H locs R lj C hR hM hL hl => lv_sipush C.1 C.2.1 hdg hv (k p e s m args below meth c H locs R lj C hR hM hL hl)
theorem pn_lconst {n : Fin 2} {v : Int64} (hdg : decode Y.2.1 pc = .ok (.lconst n, 1)) (hv : Int64.ofNat (n : Nat) = v) (k : pn_At S Λ Y d (pc + 1) ls (.long v :: st) M X) : pn_At S Λ Y d pc ls (st) M X :=
  fun p e s m args below meth c H locs R lj C hR hM hL hl => lv_lconst C.1 C.2.1 hdg hv (k p e s m args below meth c H locs R lj C hR hM hL hl)
theorem pn_dup {va : Value} (hdg : decode Y.2.1 pc = .ok (.dup, 1)) (hva : va.category = 1) (k : pn_At S Λ Y d (pc + 1) ls (va :: va :: st) M X) : pn_At S Λ Y d pc ls (va :: st) M X :=
  fun p e s m args below meth c H locs R lj C hR hM hL hl => lv_dup C.1 C.2.1 hdg (by rw [pg_up_cat]; exact hva) (k p e s m args below meth c H locs R lj C hR hM hL hl)
theorem pn_icmp_ge {x y : Int32} {off : Int} {tgt : Nat} (hdg : decode Y.2.1 pc = .ok (.if_icmp .ge off, 3)) (ht : (pc : Int) + off = (tgt : Int)) (kt : y ≤ x → pn_At S Λ Y d tgt ls st M X) (kf : ¬ y ≤ x → pn_At S Λ Y d (pc + 3) ls st M X) : pn_At S Λ Y d pc ls (.int y :: .int x :: st) M X :=
  fun p e s m args below meth c H locs R lj C hR hM hL hl => lv_icmp_ge C.1 C.2.1 hdg ht (fun h9 => kt h9 p e s m args below meth c H locs R lj C hR hM hL hl) (fun h9 => kf h9 p e s m args below meth c H locs R lj C hR hM hL hl)
theorem pn_icmp_lt {x y : Int32} {off : Int} {tgt : Nat} (hdg : decode Y.2.1 pc = .ok (.if_icmp .lt off, 3)) (ht : (pc : Int) + off = (tgt : Int)) (kt : x < y → pn_At S Λ Y d tgt ls st M X) (kf : ¬ x < y → pn_At S Λ Y d (pc + 3) ls st M X) : pn_At S Λ Y d pc ls (.int y :: .int x :: st) M X :=
  fun p e s m args below meth c H locs R lj C hR hM hL hl => lv_icmp_lt C.1 C.2.1 hdg ht (fun h9 => kt h9 p e s m args below meth c H locs R lj C hR hM hL hl) (fun h9 => kf h9 p e s m args below meth c H locs R lj C hR hM hL hl)
theorem pn_goto {off : Int} {tgt : Nat} (hdg : decode Y.2.1 pc = .ok (.goto off, 3)) (ht : (pc : Int) + off = (tgt : Int)) (k : pn_At S Λ Y d tgt ls st M X) : pn_At S Λ Y d pc ls st M X :=
  fun p e s m args below meth c H locs R lj C hR hM hL hl => lv_goto C.1 C.2.1 hdg ht (k p e s m args below meth c H locs R lj C hR hM hL hl)
theorem pn_iload_n {k : Fin 4} {i j : Nat} {x : Int32} (hdg : decode Y.2.1 pc = .ok (.iload_n k, 1)) (hi : (k : Nat) = i) (hj : ls[j]? = some (i, .int x)) (kk : pn_At S Λ Y d (pc + 1) ls (.int x :: st) M X) : pn_At S Λ Y d pc ls st M X :=
  fun p e s m args below meth c H locs R lj C hR hM hL hl => lv_iload_n C.1 C.2.1 hdg hi (pg_loc (v := .int x) hl hj) (kk p e s m args below meth c H locs R lj C hR hM hL hl)
theorem pn_istore_n {k : Fin 4} {i : Nat} {x : Int32} (hdg : decode Y.2.1 pc = .ok (.istore_n k, 1)) (hi : (k : Nat) = i) (hn : i < Y.2.2.1) (hls : (i, Value.int x) :: ls.filter (fun q => !(q.1 == i) && !(q.1 + 1 == i && q.2.category == 2)) = ls') (kk : pn_At S Λ Y d (pc + 1) ls' st M X) : pn_At S Λ Y d pc ls (.int x :: st) M X :=
  fun p e s m args below meth c H locs R lj C hR hM hL hl => lv_istore_n C.1 C.2.1 hdg hi hl hn rfl (fun lj' hl' => kk p e s m args below meth c H locs R lj' C hR hM hL (by rw [pg_f1] at hl'; rw [← hls]; exact hl'))
theorem pn_aload_n {k : Fin 4} {i j : Nat} {x : Nat} (hdg : decode Y.2.1 pc = .ok (.aload_n k, 1)) (hi : (k : Nat) = i) (hj : ls[j]? = some (i, .ref x)) (kk : pn_At S Λ Y d (pc + 1) ls (.ref x :: st) M X) : pn_At S Λ Y d pc ls st M X :=
  fun p e s m args below meth c H locs R lj C hR hM hL hl => lv_aload_n C.1 C.2.1 hdg hi (pg_loc (v := .ref x) hl hj) (kk p e s m args below meth c H locs R lj C hR hM hL hl)
theorem pn_iinc {i j : Nat} {n : Int} {x v : Int32} (hdg : decode Y.2.1 pc = .ok (.iinc i n, 3)) (hj : ls[j]? = some (i, .int x)) (hv : x + Int32.ofInt n = v) (hn : i < Y.2.2.1) (hls : (i, Value.int v) :: ls.filter (fun q => !(q.1 == i) && !(q.1 + 1 == i && q.2.category == 2)) = ls') (kk : pn_At S Λ Y d (pc + 3) ls' st M X) : pn_At S Λ Y d pc ls st M X :=
  fun p e s m args below meth c H locs R lj C hR hM hL hl => lv_iinc (k := j) C.1 C.2.1 hdg hl (by simp [pg_ml, List.getElem?_map, hj]; rfl) hv hn rfl (fun lj' hl' => kk p e s m args below meth c H locs R lj' C hR hM hL (by rw [pg_f1] at hl'; rw [← hls]; exact hl'))
theorem pn_ldc2 {index : Nat} {v : Int64} (hw : Cond.constantLong Y.1.cls index v ∈ pg_gd) (hdg : decode Y.2.1 pc = .ok (.ldc2_w index, 3)) (k : pn_At S Λ Y d (pc + 3) ls (.long v :: st) M X) : pn_At S Λ Y d pc ls st M X :=
  fun p e s m args below meth c H locs R lj C hR hM hL hl => lv_ldc2 C.1 C.2.1 C.2.2.2.1 (C.2.2.2.2.1 _ hw) hdg (k p e s m args below meth c H locs R lj C hR hM hL hl)
theorem pn_ldc {index : Nat} {v : Int32} (hw : Cond.constant Y.1.cls index v ∈ pg_gd) (hdg : decode Y.2.1 pc = .ok (.ldc index, 2)) (k : pn_At S Λ Y d (pc + 2) ls (.int v :: st) M X) : pn_At S Λ Y d pc ls st M X :=
  fun p e s m args below meth c H locs R lj C hR hM hL hl => lv_ldc C.1 C.2.1 C.2.2.2.1 (C.2.2.2.2.1 _ hw) hdg (k p e s m args below meth c H locs R lj C hR hM hL hl)
theorem pn_ldcw {index : Nat} {v : Int32} (hw : Cond.constant Y.1.cls index v ∈ pg_gd) (hdg : decode Y.2.1 pc = .ok (.ldc_w index, 3)) (k : pn_At S Λ Y d (pc + 3) ls (.int v :: st) M X) : pn_At S Λ Y d pc ls st M X :=
  fun p e s m args below meth c H locs R lj C hR hM hL hl => lv_ldcw C.1 C.2.1 C.2.2.2.1 (C.2.2.2.2.1 _ hw) hdg (k p e s m args below meth c H locs R lj C hR hM hL hl)
theorem pn_obj {i : Nat} (hlink : Cond.methodLink Y.1.cls i Lib.objectInit ∈ pg_gd) (h1 : Cond.instanceMethod Lib.objectInit ∈ pg_gd) (h2 : Cond.code Lib.objectInit ⟨#[0xb1]⟩ 1 none ∈ pg_gd) {a0 : Nat} (hst : (st.map fun v => v.category).sum ≤ 8) (hdg : decode Y.2.1 pc = .ok (.invokespecial i, 3)) (k : pn_At S Λ Y d (pc + 3) ls st M X) : pn_At S Λ Y d pc ls (.ref a0 :: st) M X :=
  fun p e s m args below meth c H locs R lj C hR hM hL hl => W.objInit C.1 C.2.1 C.2.2.2.1 (C.2.2.2.2.1 _ hlink) (C.2.2.2.2.1 _ h1) (C.2.2.2.2.1 _ h2) rfl (hl.1.trans C.2.2.1.symm) rfl hdg (by omega) (by
    have h8 : ((st.map (pg_up S)).map fun v => v.category).sum ≤ 8 := by rw [List.map_map]; simpa [Function.comp_def, pg_up_cat] using hst
    show 2 * 0 + ((st.map (pg_up S)).map fun v => v.category).sum + 12 ≤ R.locals
    omega) (k p e s m args below meth c H locs R lj C hR hM hL hl)
end PNI
section PNM
variable {S : pg_S} {Λ : pg_L} {Y : pg_Y} {d pc : Nat} {ls ls' : List (Nat × Value)} {st : List Value} {M : pg_M} {E : pn_E} {a n c0 s0 mc ms nF : Nat} {PF : pg_M → Prop}
/-- one more cell behind those that are there -/
theorem pn_R.push {M' : pg_M} {E' : pn_E} {H0 H H1 : Heap} {o : va_E} (h : pn_R S Λ M E a n c0 H0 H) (hn : n < 1000) (hold : ∀ b : Nat, b < n → pn_g S Λ M E' a (n + 1) b = pn_g S Λ M E a n b) (hnew : pn_g S Λ M E' a (n + 1) n = some o) (hE : ∀ b : Nat, n + 1 ≤ b → E' b = none) (hat : va_at S.2.2.1 pg_cls (pg_ad S n, o) H1) (hz : H1.size = S.2.1 + n + 1) (ho : ∀ q : Nat, q < S.2.1 + n → H1[q]? = H[q]?) : pn_R S Λ M E' a (n + 1) (c0 + 1) H0 H1 := by
  obtain ⟨g1, g2, g3, g4, g5, g6, g7, g8⟩ := h
  refine ⟨fun b o' hg => ?_, fun q hq => ?_, by rw [hz]; omega, by omega, by omega, hE, g7, by omega⟩
  · by_cases hb : b < n
    · rw [hold b hb] at hg
      refine (g1 b o' hg).kept ?_
      show H1[pg_ad S b]? = H[pg_ad S b]?
      rw [pg_ad_lt (by omega)]
      exact ho _ (by omega)
    · have hb2 : b < n + 1 := by
        unfold pn_g at hg
        split at hg
        · omega
        · cases hg
      obtain rfl : b = n := by omega
      cases Option.some.inj (hnew.symm.trans hg)
      exact hat
  · rw [ho q (by omega)]
    exact g2 q hq
theorem pn_newa {k : Int32} {N t0 : Nat} {aty : ArrayType} {ty : FieldType} {dd : pg_D} {x : (Nat → Int32) ⊕ (Nat → Int64) ⊕ (Nat → UInt32) ⊕ (Nat → UInt64) ⊕ (Nat → Option Nat)} (hdg : decode Y.2.1 pc = .ok (.newarray aty, 2)) (hty : newarray.typeOf aty = ty) (harr : Cond.arrayClass ty ∈ pg_gd) (hk : ¬ k < 0) (hN : k.toNatClampNeg = N) (hb : N * componentBytes ty ≤ 536870912) (ht : pg_tys[t0]? = some ty) (hRA : ∀ (U : State) (cA : ClassId), va_RA U cA ty → U.vm.findClass ("[" ++ ty.toString) = some cA)
    (hΛ : Λ n = some dd) (hce : pg_ce S M n dd = .inl (S.2.2.2.1 ty, N, x)) (hx : ∀ cA : ClassId, vp_cell cA (N, x) = arrV cA N (fun _ => defaultValue ty)) (hn : n < 1000) (hcs : c0 + 1 ≤ mc ∧ s0 + N ≤ ms)
    (kk : pn_At S Λ Y d (pc + 2) ls (.ref n :: st) M (E, a, n + 1, c0 + 1, s0 + N, mc, ms, nF, PF)) : pn_At S Λ Y d pc ls (.int k :: st) M (E, a, n, c0, s0, mc, ms, nF, PF) := by
  subst hty
  intro p e s m args below meth c H locs R lj C hR hM hL hl
  have hR3 : mc ≤ R.cells := hR.2.2.1
  have hR4 : ms ≤ R.slots := hR.2.2.2.1
  refine va_newaK (cells := c0) (slots := s0) C.1 C.2.1 (C.2.2.2.2.1 _ harr) rfl hdg rfl hk hN hb (by omega) (by omega) hM.2.2.1 (fun H1 cA e1 z1 o1 hAr hNm => ?_)
  have hK := (C.2.2.2.2.2.1.1.2 t0 (S.2.2.2.1 (newarray.typeOf aty), newarray.typeOf aty) (by simp [List.getElem?_map, ht])).2
  have hcA : S.2.2.2.1 (newarray.typeOf aty) = cA := Option.some.inj ((hRA s _ hK).symm.trans hNm)
  have han : a < n := hM.2.2.2.2.1
  have hEn : E n = none := hM.2.2.2.2.2.1 n (Nat.le_refl n)
  have hM1 : pn_R S Λ M E a (n + 1) (c0 + 1) s.heap H1 := by
    refine pn_R.push (M' := M) (o := .inl (S.2.2.2.1 (newarray.typeOf aty), N, x)) hM hn (fun b hb => ?_) ?_ (fun b hb => hM.2.2.2.2.2.1 b (by show n ≤ b; omega)) ?_ (by rw [z1]) o1
    · show pn_g S Λ M E a (n + 1) b = pn_g S Λ M E a n b
      unfold pn_g
      by_cases h : a ≤ b
      · rw [if_pos ⟨h, by omega⟩, if_pos ⟨h, hb⟩]
      · rw [if_neg (by omega), if_neg (by omega)]
    · show pn_g S Λ M E a (n + 1) n = _
      unfold pn_g
      rw [if_pos ⟨by omega, by omega⟩, hEn, hΛ]
      show some (pg_ce S M n dd) = _
      rw [hce]
    · show H1[pg_ad S n]? = some (vp_cell _ _)
      rw [pg_ad_lt hn, hx, hcA]
      exact e1
  have h9 := kk p e s m args below meth c H1 locs R lj C hR hM1 hL hl
  rw [List.map_cons, show pg_up S (.ref n) = .ref (S.2.1 + n) by simp [pg_up, pg_ad_lt hn]] at h9
  exact h9
theorem pn_new {C : String} {T : u_T} {N ci index : Nat} {fs : List Value} (ty : Nat → FieldType) (hdg : decode Y.2.1 pc = .ok (.new index, 3)) (hcl : Cond.classLink Y.1.cls index C ∈ pg_gd) (hin : Cond.instantiable C N ∈ pg_gd) (hini : Cond.initialized C ∈ pg_gd) (hc : pg_cls[ci]? = some (C, T, N)) (huw : ∀ w ∈ u_ws C T N, w ∈ pg_gd) (hty : ∀ k, k < N → parseFieldDescriptor (T k).2.2.1 = some (ty k)) (hfs : ∀ j, j < N → defaultValue (ty j) = vp_V fs j) (hn : n < 1000) (hcs : c0 + 1 ≤ mc ∧ s0 + N ≤ ms)
    (kk : pn_At S Λ Y d (pc + 3) ls (.ref n :: st) M (pn_up E n (.inr (ci, fs)), a, n + 1, c0 + 1, s0 + N, mc, ms, nF, PF)) : pn_At S Λ Y d pc ls st M (E, a, n, c0, s0, mc, ms, nF, PF) := by
  intro p e s m args below meth c H locs R lj C9 hR hM hL hl
  have hR3 : mc ≤ R.cells := hR.2.2.1
  have hR4 : ms ≤ R.slots := hR.2.2.2.1
  have hKn := C9.2.2.2.2.2.1.1.1 ci _ hc
  refine W.newcK (cells := c0) (slots := s0) C9.1 C9.2.1 C9.2.2.2.1 (C9.2.2.2.2.1 _ hcl) (C9.2.2.2.2.1 _ hin) (C9.2.2.2.2.1 _ hini) rfl hdg (by omega) (by omega) hKn.2.1 hM.2.2.1 (fun H1 kC hkC e1 z1 o1 => ?_)
  have han : a < n := hM.2.2.2.2.1
  have hM1 : pn_R S Λ M (pn_up E n (.inr (ci, fs))) a (n + 1) (c0 + 1) s.heap H1 := by
    refine pn_R.push (M' := M) (o := .inr (ci, fs)) hM hn (fun b hb => ?_) ?_ (fun b hb => ?_) ?_ (by rw [z1]) o1
    · show pn_g S Λ M (pn_up E n (.inr (ci, fs))) a (n + 1) b = pn_g S Λ M E a n b
      have hbn : ¬ b = n := by omega
      unfold pn_g
      by_cases h : a ≤ b
      · rw [if_pos ⟨h, by omega⟩, if_pos ⟨h, hb⟩]
        simp only [pn_up, hbn, if_false]
      · rw [if_neg (by omega), if_neg (by omega)]
    · show pn_g S Λ M (pn_up E n (.inr (ci, fs))) a (n + 1) n = _
      unfold pn_g
      rw [if_pos ⟨by omega, by omega⟩]
      simp only [pn_up, if_true]
    · show (if b = n then _ else E b) = none
      rw [if_neg (by omega)]
      exact hM.2.2.2.2.2.1 b (by show n ≤ b; omega)
    · have hh : H1[pg_ad S n]? = some (blank (S.2.2.1.1 ci) kC) := by rw [pg_ad_lt hn]; exact e1
      exact ⟨_, hc, (u_born ty C9.2.2.2.2.1 huw hKn hkC hh hty).to hfs⟩
  have h9 := kk p e s m args below meth c H1 locs R lj C9 hR hM1 hL hl
  rw [List.map_cons, show pg_up S (.ref n) = .ref (S.2.1 + n) by simp [pg_up, pg_ad_lt hn]] at h9
  exact h9
end PNM
set_option maxRecDepth 8000 in
theorem pn_n1 {d d' x L : Nat} (h : d' + 1 ≤ d) (hx : x ≤ 40) (hL : 64 * d + 512 ≤ L) : 8 + (x + 11) + (64 * d' + 512) ≤ L := by omega
section PNC
variable {S : pg_S} {Λ : pg_L} {Y : pg_Y} {d pc : Nat} {ls ls' : List (Nat × Value)} {st : List Value} {M : pg_M} {E : pn_E} {a n c0 s0 mc ms nF : Nat} {PF : pg_M → Prop}
theorem pn_blind {o : va_E} : FrameBlind (pn_P S n o) := fun A U g mk h => ⟨h.1, h.2.1, h.2.2.1, h.2.2.2.1, pn_AO.moved (u := U) (U := U.calling g mk A) (Vm.Alike.refl U.vm) h.2.2.2.2.1, pg_K.same (s := U) (U := U.calling g mk A) rfl h.2.2.2.2.2⟩
/-- behind a constructor's call -/
theorem pn_goon {As : Array Value} {PF' : pg_M → Prop} {st0 : List Value} {n' mc' ms' : Nat} {o : va_E} {p : Program} {e : Env} {s : State} {m : MethodId} {args : Array Value} {below : List Frame} {meth : Method} {c : Code} {H : Heap} {locs : List Loc} {R : Room} {lj : Array Slot} (C9 : pg_C S Y p s m args meth c) (hR : d + 8 ≤ R.frames ∧ 64 * d + 512 ≤ R.locals ∧ mc ≤ R.cells ∧ ms ≤ R.slots ∧ meth.name = "<init>" ∧ pn_AO s) (hM : pn_R S Λ M (pn_up E n o) a (n + 1) c0 s.heap H) (hnm : n' = n + 1 + mc') (hEn : E n = none) (hn' : n + 1 ≤ n' ∧ n' ≤ 1000) (hL : ∀ q ∈ locs, S.2.1 + a ≤ q.base) (hl : lv_has lj Y.2.2.1 (pg_ml S ls)) (han : a < n)
    (hfr : ∀ M', PF' M' → ∀ b : Nat, b < n → M'.1 b = M.1 b ∧ M'.2.1 b = M.2.1 b ∧ M'.2.2 b = M.2.2 b)
    (hr : va_Run p S.1 e R s m args below meth c H locs c0 s0 mc' ms' (F0 m pc lj st0) (st.map (pg_up S)) (pn_Q S Λ n n' PF' As) (fun q => S.2.1 + n ≤ q)) (kk : ∀ M', PF' M' → pn_At S Λ Y d (pc + 3) ls st M' (E, a, n', c0 + mc', s0 + ms', mc, ms, nF, PF)) :
    W p S.1 e R s m args below meth c H locs c0 s0 (MQ below (pn_Q S Λ a nF PF) args s mc ms (fun q => S.2.1 + a ≤ q)) (F0 m pc lj st0) := by
  intro T hT X
  obtain ⟨v, st₀, t, T', L, h0, X', hL', e1, e2, ⟨hv, M', hp, hm1, hm2, hm3⟩, go⟩ := hr T hT X
  have hv' : v = none := Outcome.returned.inj hv
  subst hv'
  obtain ⟨g1, g2, g3, g4, g5, g6, g7, g8⟩ := hM
  have hM' : pn_R S Λ M' E a n' (c0 + mc') s.heap T'.heap := by
    refine ⟨fun b o' hg => ?_, fun q hq => ?_, by rw [e1]; exact hm3, hn'.2, by omega, fun b hb => ?_, g7, by omega⟩
    · unfold pn_g at hg
      split at hg
      · rename_i hb
        by_cases hbn : b < n
        · have h9 : pn_g S Λ M (pn_up E n o) a (n + 1) b = some o' := by
            unfold pn_g
            rw [if_pos ⟨hb.1, by omega⟩]
            have hne : ¬ b = n := by omega
            simp only [pn_up, hne, if_false]
            cases hE : E b with
            | some o2 => rw [hE] at hg; exact hg
            | none =>
              rw [hE] at hg
              simp only at hg ⊢
              cases hd : Λ b with
              | none => rw [hd] at hg; cases hg
              | some d2 =>
                rw [hd] at hg
                simp only [Option.map_some] at hg ⊢
                obtain ⟨f1, f2, f3⟩ := hfr M' hp b hbn
                rw [← hg, pg_ce_off (S := S) f1 f2 f3 d2]
          refine (g1 b o' h9).kept ?_
          show T'.heap[pg_ad S b]? = H[pg_ad S b]?
          rw [pg_ad_lt (by omega), e1, hm2 _ (by omega), h0]
        · have hE : E b = none := by
            by_cases hbe : b = n
            · rw [hbe]; exact hEn
            · have := g6 b (by omega)
              simpa [pn_up, hbe] using this
          rw [hE] at hg
          simp only at hg
          cases hd : Λ b with
          | none => rw [hd] at hg; cases hg
          | some d2 =>
            rw [hd] at hg
            cases Option.some.inj hg
            rw [e1]
            exact hm1 b d2 (by omega) hb.2 hd
      · cases hg
    · rw [e1, hm2 q (by omega), h0]
      exact g2 q hq
    · have := g6 b (by omega)
      have hbe : ¬ b = n := by omega
      simpa [pn_up, hbe] using this
  have h9 := kk M' hp p e s m args below meth c T'.heap (locs ++ L) R lj C9 hR hM' (fun q hq => (List.mem_append.mp hq).elim (hL q) (fun h => by have := hL' q h; show S.2.1 + a ≤ q.base; omega)) hl
  obtain ⟨t2, a1, b1⟩ := h9 T' rfl X'
  exact ⟨t2, go t2 a1, b1⟩
def pn_okI (Y : pg_Y) : Prop := Cond.instanceMethod Y.1 ∈ pg_gd ∧ Cond.initialized Y.1.cls ∈ pg_gd ∧ Cond.code Y.1 Y.2.1 Y.2.2.1 none ∈ pg_gd ∧ Y.1.cls ≠ "java/lang/invoke/MethodHandle" ∧ Y.1.cls ≠ "java/lang/invoke/VarHandle" ∧ Y.2.2.1 ≤ 40 ∧ Y.1.name = "<init>" ∧ (parseMethodDescriptor Y.1.desc).map (fun d => d.parameters.length) = some 0
theorem pn_init {Y' : pg_Y} {d' index n' mc' ms' : Nat} {o : va_E} {PF' : pg_M → Prop} (ok : pn_okI Y') (hlink : Cond.methodLink Y.1.cls index Y'.1 ∈ pg_gd) (hE : pn_Ev S Λ Y' d' n o mc' ms' n' PF') (hdg : decode Y.2.1 pc = .ok (.invokespecial index, 3)) (hdd : d' + 1 ≤ d) (hst : (st.map fun v => v.category).sum ≤ 8) (hEn : E n = none) (hn : n < 1000) (hn' : n + 1 ≤ n' ∧ n' ≤ 1000) (hcs : c0 + mc' ≤ mc ∧ s0 + ms' ≤ ms) (hnm : n' = n + 1 + mc') (han : a < n) (hfr : ∀ M', PF' M' → ∀ b : Nat, b < n → M'.1 b = M.1 b ∧ M'.2.1 b = M.2.1 b ∧ M'.2.2 b = M.2.2 b)
    (kk : ∀ M', PF' M' → pn_At S Λ Y d (pc + 3) ls st M' (E, a, n', c0 + mc', s0 + ms', mc, ms, nF, PF)) : pn_At S Λ Y d pc ls (.ref n :: st) M (pn_up E n o, a, n + 1, c0, s0, mc, ms, nF, PF) := by
  intro p e s m args below meth c H locs R lj C9 hR hM hL hl
  obtain ⟨o1, o2, o3, o4, o5, o6, o7, o8⟩ := ok
  have hR1 : d + 8 ≤ R.frames := hR.1
  have hR2 : 64 * d + 512 ≤ R.locals := hR.2.1
  have hR3 : mc ≤ R.cells := hR.2.2.1
  have hR4 : ms ≤ R.slots := hR.2.2.2.1
  have hM9 := hE ({ frames := d' + 8, cells := mc', slots := ms', locals := 64 * d' + 512 } : Room) (Nat.le_refl _) (Nat.le_refl _) rfl rfl
  have hat : va_at S.2.2.1 pg_cls (pg_ad S n, o) H := hM.1 n o (by
    show pn_g S Λ M (pn_up E n o) a (n + 1) n = some o
    unfold pn_g
    rw [if_pos ⟨by omega, by omega⟩]
    simp only [pn_up, if_true])
  refine pn_goon (As := (Value.ref (pg_ad S n) :: []).toArray) C9 hR hM hnm hEn hn' hL hl han hfr ?_ kk
  refine va_runI (As := []) (b := pg_ad S n) (n := 0) ⟨C9.1, C9.2.1, C9.2.2.1, C9.2.2.2.1, C9.2.2.2.2.1⟩ hM9 (cwI 0 C9.2.2.2.2.1 (pg_good o3) rfl rfl rfl (C9.2.2.2.2.1 _ o2) (C9.2.2.2.2.1 _ hlink) (C9.2.2.2.2.1 _ o1) o7 ⟨o4, o5, o8⟩ ⟨by show d' + 8 + 1 ≤ R.frames; omega, pn_n1 hdd o6 hR2⟩) ⟨pn_blind, fun U hU hW => ⟨rfl, by rw [hU]; exact hat, by rw [hU]; exact hM.2.2.1, fun q hq => by rw [hU, hM.2.1 q (by show q < S.2.1 + a; omega)]; exact hM.2.2.2.2.2.2.1 q hq, pn_AO.moved hW.alike hR.2.2.2.2.2, pg_K.warm hW C9.2.2.2.2.2.1⟩⟩ rfl rfl hl.1 rfl (lv_room (by rw [List.map_map]; simpa [Function.comp_def, pg_up_cat] using hst)) hdg ⟨by show c0 + mc' ≤ R.cells; omega, by show s0 + ms' ≤ R.slots; omega⟩
theorem pn_initN {Y' : pg_Y} {d' index n' mc' ms' : Nat} {o : va_E} {host : String} {PF' : pg_M → Prop} (ok : pn_okI Y') (hlink : Cond.methodLinkNest Y.1.cls index Y'.1 host ∈ lw_tbl) (hE : pn_Ev S Λ Y' d' n o mc' ms' n' PF') (hdg : decode Y.2.1 pc = .ok (.invokespecial index, 3)) (hdd : d' + 1 ≤ d) (hst : (st.map fun v => v.category).sum ≤ 8) (hEn : E n = none) (hn : n < 1000) (hn' : n + 1 ≤ n' ∧ n' ≤ 1000) (hcs : c0 + mc' ≤ mc ∧ s0 + ms' ≤ ms) (hnm : n' = n + 1 + mc') (han : a < n) (hfr : ∀ M', PF' M' → ∀ b : Nat, b < n → M'.1 b = M.1 b ∧ M'.2.1 b = M.2.1 b ∧ M'.2.2 b = M.2.2 b)
    (kk : ∀ M', PF' M' → pn_At S Λ Y d (pc + 3) ls st M' (E, a, n', c0 + mc', s0 + ms', mc, ms, nF, PF)) : pn_At S Λ Y d pc ls (.ref n :: st) M (pn_up E n o, a, n + 1, c0, s0, mc, ms, nF, PF) := by
  intro p e s m args below meth c H locs R lj C9 hR hM hL hl
  obtain ⟨o1, o2, o3, o4, o5, o6, o7, o8⟩ := ok
  have hR1 : d + 8 ≤ R.frames := hR.1
  have hR2 : 64 * d + 512 ≤ R.locals := hR.2.1
  have hR3 : mc ≤ R.cells := hR.2.2.1
  have hR4 : ms ≤ R.slots := hR.2.2.2.1
  have hM9 := hE ({ frames := d' + 8, cells := mc', slots := ms', locals := 64 * d' + 512 } : Room) (Nat.le_refl _) (Nat.le_refl _) rfl rfl
  have hat : va_at S.2.2.1 pg_cls (pg_ad S n, o) H := hM.1 n o (by
    show pn_g S Λ M (pn_up E n o) a (n + 1) n = some o
    unfold pn_g
    rw [if_pos ⟨by omega, by omega⟩]
    simp only [pn_up, if_true])
  refine pn_goon (As := (Value.ref (pg_ad S n) :: []).toArray) C9 hR hM hnm hEn hn' hL hl han hfr ?_ kk
  refine va_runIN (As := []) (b := pg_ad S n) (n := 0) (host := host) ⟨C9.1, C9.2.1, C9.2.2.1, C9.2.2.2.1, C9.2.2.2.2.1⟩ hM9 ⟨va_cnB 0 C9.2.2.2.2.1 (pg_good o3) rfl rfl rfl (C9.2.2.2.2.2.1.2.1 _ hlink rfl) (C9.2.2.2.2.1 _ o2) ⟨o4, o5, o8⟩ ⟨by show d' + 8 + 1 ≤ R.frames; omega, pn_n1 hdd o6 hR2⟩, o7, C9.2.2.2.2.1 _ o1⟩ ⟨pn_blind, fun U hU hW => ⟨rfl, by rw [hU]; exact hat, by rw [hU]; exact hM.2.2.1, fun q hq => by rw [hU, hM.2.1 q (by show q < S.2.1 + a; omega)]; exact hM.2.2.2.2.2.2.1 q hq, pn_AO.moved hW.alike hR.2.2.2.2.2, pg_K.warm hW C9.2.2.2.2.2.1⟩⟩ rfl rfl hl.1 rfl (lv_room (by rw [List.map_map]; simpa [Function.comp_def, pg_up_cat] using hst)) hdg ⟨by show c0 + mc' ≤ R.cells; omega, by show s0 + ms' ≤ R.slots; omega⟩
theorem pn_vret (hr : Y.2.2.2 = none) (hdg : decode Y.2.1 pc = .ok (.return_, 1)) (hP : PF M) (hE : ∀ (b : Nat) (o : va_E), E b = some o → (Λ b).map (pg_ce S M b) = some o) : pn_At S Λ Y d pc ls [] M (E, a, nF, mc, ms, mc, ms, nF, PF) :=
  fun p e s m args below meth c H locs R lj C9 hR hM hL hl => W.vret C9.1 C9.2.1 (C9.2.2.2.2.2.2.1.trans hr) (fun t ht _ => ⟨rfl, M, hP, fun b d2 h1 h2 h3 => by
    rw [ht]
    refine hM.1 b _ ?_
    show pn_g S Λ M E a nF b = _
    unfold pn_g
    rw [if_pos ⟨h1, h2⟩]
    cases hE2 : E b with
    | none => simp only [h3, Option.map_some]
    | some o =>
      have := hE b o hE2
      rw [h3] at this
      simp only [Option.map_some] at this
      simp only [this], fun q hq => by rw [ht]; exact hM.2.1 q hq, by rw [ht]; exact hM.2.2.1⟩) hL hdg C9.2.2.2.2.2.2.2
end PNC
section PNP
variable {S : pg_S} {Λ : pg_L} {Y : pg_Y} {d pc : Nat} {ls ls' : List (Nat × Value)} {st : List Value} {M : pg_M} {E : pn_E} {a n c0 s0 mc ms nF : Nat} {PF : pg_M → Prop}
/-- a cell that is held as it stands becomes another -/
theorem pn_R.put {o' : va_E} {b : Nat} {H0 H H1 : Heap} (h : pn_R S Λ M E a n c0 H0 H) (hb : a ≤ b ∧ b < n) (hat : va_at S.2.2.1 pg_cls (pg_ad S b, o') H1) (hz : H1.size = H.size) (ho : ∀ q : Nat, q ≠ pg_ad S b → H1[q]? = H[q]?) : pn_R S Λ M (pn_up E b o') a n c0 H0 H1 := by
  obtain ⟨g1, g2, g3, g4, g5, g6, g7, g8⟩ := h
  refine ⟨fun x o hg => ?_, fun q hq => ?_, by rw [hz, g3], g4, g5, fun x hx => ?_, g7, g8⟩
  · unfold pn_g at hg
    split at hg
    · rename_i hx
      by_cases hxb : x = b
      · subst hxb
        simp only [pn_up, if_true] at hg
        cases Option.some.inj hg
        exact hat
      · simp only [pn_up, hxb, if_false] at hg
        refine (g1 x o ?_).kept (ho _ ?_)
        · unfold pn_g
          rw [if_pos hx]
          exact hg
        · show pg_ad S x ≠ pg_ad S b
          rw [pg_ad_lt (by omega), pg_ad_lt (by omega)]
          omega
    · cases hg
  · rw [ho q (by rw [pg_ad_lt (by omega)]; omega)]
    exact g2 q hq
  · have hxb : ¬ x = b := by omega
    simp only [pn_up, hxb, if_false]
    exact g6 x hx
theorem pn_norm {E' : pn_E} (h : ∀ b, E b = E' b) (k : pn_At S Λ Y d pc ls st M (E', a, n, c0, s0, mc, ms, nF, PF)) : pn_At S Λ Y d pc ls st M (E, a, n, c0, s0, mc, ms, nF, PF) := by
  rw [show E = E' from funext h]
  exact k
theorem pn_upup {o o' : va_E} {b : Nat} : ∀ x, pn_up (pn_up E b o) b o' x = pn_up E b o' x := by
  intro x
  unfold pn_up
  by_cases h : x = b <;> simp [h]
/-- a final field of the object that is made -/
theorem pn_putF {ci k N index x : Nat} {T : u_T} {fs : List Value} {v : Value} (ty0 : Nat → FieldType) {ty : FieldType} (hc : pg_cls[ci]? = some (Y.1.cls, T, N)) (huw : ∀ w ∈ u_ws Y.1.cls T N, w ∈ pg_gd) (hty : ∀ k, k < N → parseFieldDescriptor (T k).2.2.1 = some (ty0 k)) (hnm : ∀ a, a < N → ∀ b, b < N → a ≠ b → (T a).2.1 ≠ (T b).2.1) (hk : k < N) (hkl : k < fs.length) (hx : a ≤ x ∧ x < n) (hlink : Cond.fieldLink Y.1.cls index Y.1.cls (T k).2.1 (T k).2.2.1 ∈ pg_gd) (hown : (T k).1 = Y.1.cls) (hfin : (T k).2.2.2 = true) (hd : parseFieldDescriptor (T k).2.2.1 = some ty) (hn : narrow ty (pg_up S v) = pg_up S v) (hfit : fits ty (pg_up S v) = true)
    (hdg : decode Y.2.1 pc = .ok (.putfield index, 3)) (kk : pn_At S Λ Y d (pc + 3) ls st M (pn_up E x (.inr (ci, fs.set k (pg_up S v))), a, n, c0, s0, mc, ms, nF, PF)) : pn_At S Λ Y d pc ls (v :: .ref x :: st) M (pn_up E x (.inr (ci, fs)), a, n, c0, s0, mc, ms, nF, PF) := by
  intro p e s m args below meth c H locs R lj C9 hR hM hL hl
  have hK := C9.2.2.2.2.2.1.1
  have hap := va_apart (own := Y.1.cls) C9.2.2.2.2.1 huw ty0 hty hnm hK hc
  have han : a < n := hM.2.2.2.2.1
  have hat : va_at S.2.2.1 pg_cls (pg_ad S x, .inr (ci, fs)) H := hM.1 x _ (by
    show pn_g S Λ M (pn_up E x (.inr (ci, fs))) a n x = _
    unfold pn_g
    rw [if_pos hx]
    simp only [pn_up, if_true])
  obtain ⟨r, h1, cell, q1, q2, q3, q4⟩ := hat
  have hr : r = (Y.1.cls, T, N) := Option.some.inj (h1.symm.trans hc)
  subst hr
  obtain ⟨hS, hfc, kC, hkC, hkind⟩ := hK.1 ci _ hc
  obtain ⟨cf, kf, fi, f, hi, hsl⟩ := hS k hk
  have hlay := C9.2.2.2.2.1 _ (huw _ (u_in_lay hk))
  unfold u_lay at hlay
  rw [if_pos hfin] at hlay
  have hst := (u_facts hfc hkC (u_lays C9.2.2.2.2.1 huw hk) hi).1
  have hcf : m.cls = cf := by
    obtain ⟨_, _, c', _, _, _, -, -, hf', -, -, -, hown2, -⟩ := Cond.laysFinal_spec hlay
    have e1 : c' = cf := by have := hi.symm.trans hf'; simp at this; exact this.1.symm
    rw [hown] at hown2
    rw [← e1]; exact Option.some.inj (C9.2.2.2.1.symm.trans hown2)
  have h6 := u_fits hfc hkC hkind (Or.inr hlay) hi hd hn hfit
  have hi' : s.fieldFound? Y.1.cls (T k).2.1 (T k).2.2.1 = some (cf, kf, fi, f) := by
    have h7 := hi
    dsimp only at h7
    rw [hown] at h7
    exact h7
  refine W.putFinK (a := pg_ad S x) (v := pg_up S v) C9.1 C9.2.1 C9.2.2.2.1 (C9.2.2.2.2.1 _ hlink) hi' hst hcf hR.2.2.2.2.1 (by rw [q2]; exact h6) q1 q3 (by rw [hsl]; exact k2_hasslot (q4 k hk)) rfl rfl hdg fun H1 e1 e2 e3 => ?_
  rw [hsl] at e1
  have hat1 : va_at S.2.2.1 pg_cls (pg_ad S x, .inr (ci, fs.set k (pg_up S v))) H1 := ⟨_, hc, t_OB.to (V := updV (vp_V fs) k (pg_up S v)) ⟨_, e1, q2, q3, t_set q4 hap hk (pg_up S v)⟩ (fun j _ => vp_updV_set hkl (pg_up S v) j)⟩
  have hM1 : pn_R S Λ M (pn_up E x (.inr (ci, fs.set k (pg_up S v)))) a n c0 s.heap H1 := by
    have h9 := pn_R.put hM hx hat1 e2 e3
    rw [show pn_up (pn_up E x (.inr (ci, fs))) x (.inr (ci, fs.set k (pg_up S v))) = pn_up E x (.inr (ci, fs.set k (pg_up S v))) from funext pn_upup] at h9
    exact h9
  exact kk p e s m args below meth c H1 (locs ++ [⟨pg_ad S x, f.slot⟩]) R lj C9 hR hM1 (fun q hq => (List.mem_append.mp hq).elim (hL q) (fun h => by
    cases List.mem_singleton.mp h
    show S.2.1 + a ≤ pg_ad S x
    rw [pg_ad_lt (by have h7 : n ≤ 1000 := hM.2.2.2.1; omega)]
    omega)) hl
/-- another field of it -/
theorem pn_put {ci k N index x : Nat} {T : u_T} {fs : List Value} {v : Value} (ty0 : Nat → FieldType) {ty : FieldType} (hc : pg_cls[ci]? = some (Y.1.cls, T, N)) (huw : ∀ w ∈ u_ws Y.1.cls T N, w ∈ pg_gd) (hty : ∀ k, k < N → parseFieldDescriptor (T k).2.2.1 = some (ty0 k)) (hnm : ∀ a, a < N → ∀ b, b < N → a ≠ b → (T a).2.1 ≠ (T b).2.1) (hk : k < N) (hkl : k < fs.length) (hx : a ≤ x ∧ x < n) (hlink : Cond.fieldLink Y.1.cls index Y.1.cls (T k).2.1 (T k).2.2.1 ∈ pg_gd) (hown : (T k).1 = Y.1.cls) (hfin : (T k).2.2.2 = false) (hd : parseFieldDescriptor (T k).2.2.1 = some ty) (hn : narrow ty (pg_up S v) = pg_up S v) (hfit : fits ty (pg_up S v) = true)
    (hdg : decode Y.2.1 pc = .ok (.putfield index, 3)) (kk : pn_At S Λ Y d (pc + 3) ls st M (pn_up E x (.inr (ci, fs.set k (pg_up S v))), a, n, c0, s0, mc, ms, nF, PF)) : pn_At S Λ Y d pc ls (v :: .ref x :: st) M (pn_up E x (.inr (ci, fs)), a, n, c0, s0, mc, ms, nF, PF) := by
  intro p e s m args below meth c H locs R lj C9 hR hM hL hl
  have hK := C9.2.2.2.2.2.1.1
  have hap := va_apart (own := Y.1.cls) C9.2.2.2.2.1 huw ty0 hty hnm hK hc
  have han : a < n := hM.2.2.2.2.1
  have hat : va_at S.2.2.1 pg_cls (pg_ad S x, .inr (ci, fs)) H := hM.1 x _ (by
    show pn_g S Λ M (pn_up E x (.inr (ci, fs))) a n x = _
    unfold pn_g
    rw [if_pos hx]
    simp only [pn_up, if_true])
  obtain ⟨r, h1, cell, q1, q2, q3, q4⟩ := hat
  have hr : r = (Y.1.cls, T, N) := Option.some.inj (h1.symm.trans hc)
  subst hr
  obtain ⟨hS, hfc, kC, hkC, hkind⟩ := hK.1 ci _ hc
  obtain ⟨cf, kf, fi, f, hi, hsl⟩ := hS k hk
  have hlay := C9.2.2.2.2.1 _ (huw _ (u_in_lay hk))
  unfold u_lay at hlay
  rw [if_neg (by rw [hfin]; decide)] at hlay
  have hst := (u_facts hfc hkC (u_lays C9.2.2.2.2.1 huw hk) hi).1
  have h6 := u_store hfc hkC hkind hlay hi hd hn hfit
  have hi' : s.fieldFound? Y.1.cls (T k).2.1 (T k).2.2.1 = some (cf, kf, fi, f) := by
    have h7 := hi
    dsimp only at h7
    rw [hown] at h7
    exact h7
  refine W.putK (a := pg_ad S x) (v := pg_up S v) (f := f) C9.1 C9.2.1 ⟨C9.2.2.2.1, C9.2.2.2.2.1 _ hlink, ⟨_, _, _, hi'⟩, hst⟩ (by rw [q2]; exact h6) q1 q3 (by rw [hsl]; exact k2_hasslot (q4 k hk)) rfl rfl hdg fun H1 e1 e2 e3 => ?_
  rw [hsl] at e1
  have hat1 : va_at S.2.2.1 pg_cls (pg_ad S x, .inr (ci, fs.set k (pg_up S v))) H1 := ⟨_, hc, t_OB.to (V := updV (vp_V fs) k (pg_up S v)) ⟨_, e1, q2, q3, t_set q4 hap hk (pg_up S v)⟩ (fun j _ => vp_updV_set hkl (pg_up S v) j)⟩
  have hM1 : pn_R S Λ M (pn_up E x (.inr (ci, fs.set k (pg_up S v)))) a n c0 s.heap H1 := by
    have h9 := pn_R.put hM hx hat1 e2 e3
    rw [show pn_up (pn_up E x (.inr (ci, fs))) x (.inr (ci, fs.set k (pg_up S v))) = pn_up E x (.inr (ci, fs.set k (pg_up S v))) from funext pn_upup] at h9
    exact h9
  exact kk p e s m args below meth c H1 (locs ++ [⟨pg_ad S x, f.slot⟩]) R lj C9 hR hM1 (fun q hq => (List.mem_append.mp hq).elim (hL q) (fun h => by
    cases List.mem_singleton.mp h
    show S.2.1 + a ≤ pg_ad S x
    rw [pg_ad_lt (by have h7 : n ≤ 1000 := hM.2.2.2.1; omega)]
    omega)) hl
end PNP
