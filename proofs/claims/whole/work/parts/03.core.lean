/-! THE PURE FACE: the cells that the law's objects live in, as one memory of numbers; a method's run as a statement about that memory. -/
abbrev pg_M : Type := (Nat → Nat → Int32) × (Nat → Nat → Int64) × (Nat → Nat → Nat)
abbrev pg_F : Type := Nat ⊕ Nat
abbrev pg_D : Type := (Nat × List pg_F) ⊕ (FieldType × Nat × Option (Option (Nat → Nat)))
abbrev pg_L : Type := Nat → Option pg_D
abbrev pg_S : Type := Launch × Nat × va_G × (FieldType → ClassId) × (Nat → Nat) × Heap
def pg_ad (S : pg_S) (k : Nat) : Nat := if k < 1000 then S.2.1 + k else S.2.2.2.2.1 k
def pg_up (S : pg_S) (v : Value) : Value := match v with
  | .ref k => .ref (pg_ad S k)
  | w => w
theorem pg_up_cat (S : pg_S) (v : Value) : (pg_up S v).category = v.category := by cases v <;> rfl
def pg_fv (M : pg_M) (a i : Nat) (f : pg_F) : Value := match f with
  | .inl 0 => .int (M.1 a i)
  | .inl 1 => .long (M.2.1 a i)
  | .inl _ => .ref (M.2.2 a i)
  | .inr r => .ref r
def pg_fvs (M : pg_M) (a : Nat) : Nat → List pg_F → List Value
  | _, [] => []
  | i, f :: fs => pg_fv M a i f :: pg_fvs M a (i + 1) fs
theorem pg_fvs_get (M : pg_M) (a : Nat) (fs : List pg_F) : ∀ (i k : Nat), (pg_fvs M a i fs)[k]? = (fs[k]?).map (pg_fv M a (i + k)) := by
  induction fs with
  | nil => intro i k; simp [pg_fvs]
  | cons f fs ih =>
    intro i k
    cases k with
    | zero => simp [pg_fvs]
    | succ k => simp [pg_fvs, ih (i + 1) k, show i + 1 + k = i + (k + 1) by omega]
theorem pg_fvs_len (M : pg_M) (a : Nat) (fs : List pg_F) : ∀ i : Nat, (pg_fvs M a i fs).length = fs.length := by
  induction fs with
  | nil => intro i; rfl
  | cons f fs ih => intro i; simp [pg_fvs, ih (i + 1)]
def pg_ce (S : pg_S) (M : pg_M) (a : Nat) (d : pg_D) : va_E := match d with
  | .inl (c, fs) => .inr (c, (pg_fvs M a 0 fs).map (pg_up S))
  | .inr (ty, n, none) => .inl (S.2.2.2.1 ty, n, .inl (M.1 a))
  | .inr (ty, n, some none) => .inl (S.2.2.2.1 ty, n, .inr (.inl (M.2.1 a)))
  | .inr (ty, n, some (some f)) => .inl (S.2.2.2.1 ty, n, .inr (.inr (.inr (.inr (fun j => some (pg_ad S (f j)))))))
/-- the heap holds the memory: the cells of the layout as the memory has them, all that was there before unchanged -/
def pg_R (S : pg_S) (Λ : pg_L) (M : pg_M) (H : Heap) : Prop :=
  (∀ (a : Nat) (d : pg_D), Λ a = some d → a < 1000 ∧ va_at S.2.2.1 pg_cls (pg_ad S a, pg_ce S M a d) H) ∧ (∀ q : Nat, q < S.2.1 → H[q]? = S.2.2.2.2.2[q]?) ∧ S.2.1 ≤ H.size
def pg_tys : List FieldType := [.int, .long, .boolean, .char, .object "PegLaws$State", .object "PegLaws$Felt"]
def pg_nest (w : Cond) : Bool := match w with
  | .fieldLinkNest _ _ _ _ _ _ => true
  | .methodLinkNest _ _ _ _ => true
  | _ => false
def pg_strs : List (String × Nat × String × Nat) := [("PegLaws$Reader", 231, "cloth wide weight worth pegs winds yards gusts clash pulls dries hang take wash buy hour plain sheet flag wool not and or wind mass size ", 1000), ("PegLaws$Reader", 223, "()<=+-*;", 1001), ("PegLaws", 263, "no such worths or no such rest", 1002), ("PegLaws", 272, "fewer rests", 1003)]
def pg_words : List Int32 := ["cloth wide weight worth pegs winds yards gusts clash pulls dries hang take wash buy hour plain sheet flag wool not and or wind mass size "].flatMap (fun t => t.toList.map (fun c => Int32.ofNat c.toNat))
def pg_signs : List Int32 := [40, 41, 60, 61, 43, 45, 42, 59]
/-- the texts of the program, and the two statics that its methods read, as they were at the start -/
def pg_T (S : pg_S) (s : State) : Prop :=
  vk_S 2 [137, 8] [pg_words, pg_signs] (fun i => S.2.2.2.2.1 (1000 + i)) (fun i => S.2.2.2.2.1 (1100 + i)) (fun q => S.2.1 ≤ q) s S.2.2.2.2.2 ∧ va_Z "java/lang/String" "COMPACT_STRINGS" "Z" (.int 1) (fun q => S.2.1 ≤ q) s S.2.2.2.2.2 ∧ (va_Z "jdk/internal/util/Preconditions" "SIOOBE_FORMATTER" "Ljava/util/function/BiFunction;" .null (fun q => S.2.1 ≤ q) s S.2.2.2.2.2 ∨ va_Z "jdk/internal/util/Preconditions" "SIOOBE_FORMATTER" "Ljava/util/function/BiFunction;" (.ref (S.2.2.2.2.1 1200)) (fun q => S.2.1 ≤ q) s S.2.2.2.2.2)
theorem pg_T.moved {S : pg_S} {s U : State} (hvm : s.vm.Alike U.vm) (h : pg_T S s) : pg_T S U :=
  ⟨vk_S.moved hvm h.1, va_Z.moved hvm h.2.1, h.2.2.imp (va_Z.moved hvm) (va_Z.moved hvm)⟩
def pg_K (S : pg_S) (s : State) : Prop :=
  va_K S.2.2.1 pg_cls (pg_tys.map fun t => (S.2.2.2.1 t, t)) s ∧ (∀ w ∈ lw_tbl, pg_nest w = true → va_Nw w s) ∧ (∀ q ∈ pg_strs, vk_R q.1 q.2.1 q.2.2.1 (S.2.2.2.2.1 q.2.2.2) s) ∧ pg_T S s
theorem pg_K.warm {S : pg_S} {s U : State} (hW : s.WarmedH U.vm) (h : pg_K S s) : pg_K S U := by
  refine ⟨va_K.moved hW.alike h.1, fun w hw hn => ?_, fun q hq => vk_R.warm hW (h.2.2.1 q hq), pg_T.moved hW.alike h.2.2.2⟩
  have h1 := h.2.1 w hw hn
  cases w with
  | fieldLinkNest a i b n d x => exact va_Nw.warmF hW h1
  | methodLinkNest a i y x => exact va_Nw.warmM hW h1
  | _ => cases hn
theorem pg_K.same {S : pg_S} {s U : State} (hv : s.vm = U.vm) (h : pg_K S s) : pg_K S U := by
  refine ⟨va_K.moved (by rw [hv]; exact Vm.Alike.refl _) h.1, fun w hw hn => ?_, fun q hq => vk_R.same hv.symm (h.2.2.1 q hq), pg_T.moved (by rw [hv]; exact Vm.Alike.refl _) h.2.2.2⟩
  have h1 := h.2.1 w hw hn
  cases w with
  | fieldLinkNest a i b n d x => exact va_Nw.same rfl hv h1
  | methodLinkNest a i y x => exact va_Nw.same rfl hv h1
  | _ => cases hn
def pg_C (S : pg_S) (Y : pg_Y) (p : Program) (s : State) (m : MethodId) (args : Array Value) (meth : Method) (c : Code) : Prop :=
  p.tables.exec = Jvm.exec ∧ c.code = Y.2.1 ∧ c.maxLocals = Y.2.2.1 ∧ s.vm.findClass Y.1.cls = some m.cls ∧ (∀ w ∈ pg_gd, w.before args s = true) ∧ pg_K S s ∧ meth.sig.returnType = Y.2.2.2 ∧ meth.locks = false
def pg_Q (S : pg_S) (Λ : pg_L) (P : Option Value → pg_M → Prop) : Array Value → State → Outcome → State → Prop := fun _ _ o t => ∃ (r : Option Value) (M : pg_M), o = .returned (r.map (pg_up S)) ∧ P r M ∧ pg_R S Λ M t.heap
def pg_P (S : pg_S) (Λ : pg_L) (As : List Value) (M : pg_M) : Array Value → State → Prop := fun v U => v = (As.map (pg_up S)).toArray ∧ pg_R S Λ M U.heap ∧ pg_K S U
def pg_ml (S : pg_S) (ls : List (Nat × Value)) : List (Nat × Value) := ls.map (fun q => (q.1, pg_up S q.2))
/-- from this point of the method, with these locals and this stack, over this memory: it returns, and P -/
def pg_At (S : pg_S) (Λ : pg_L) (Y : pg_Y) (d pc : Nat) (ls : List (Nat × Value)) (st : List Value) (M : pg_M) (P : Option Value → pg_M → Prop) : Prop :=
  ∀ (p : Program) (e : Env) (s : State) (m : MethodId) (args : Array Value) (below : List Frame) (meth : Method) (c : Code) (H : Heap) (locs : List Loc) (R : Room) (lj : Array Slot),
    pg_C S Y p s m args meth c → (d + 8 ≤ R.frames ∧ 64 * d + 512 ≤ R.locals) → pg_R S Λ M H → (∀ q ∈ locs, S.2.1 ≤ q.base) → lv_has lj Y.2.2.1 (pg_ml S ls) →
    W p S.1 e R s m args below meth c H locs 0 0 (MQ below (pg_Q S Λ P) args s 0 0 (fun q => S.2.1 ≤ q)) (F0 m pc lj (st.map (pg_up S)))
/-- a method, from its start: it returns, and P -/
def pg_Ev (S : pg_S) (Λ : pg_L) (Y : pg_Y) (d : Nat) (As : List Value) (M : pg_M) (P : Option Value → pg_M → Prop) : Prop :=
  ∀ rm : Room, d + 8 ≤ rm.frames → 64 * d + 512 ≤ rm.locals → rm.cells = 0 → rm.slots = 0 → Met S.1 Y.1 (Cond.code Y.1 Y.2.1 Y.2.2.1 Y.2.2.2 :: pg_gd) rm (pg_P S Λ As M) (pg_Q S Λ P) 0 0 (fun q => S.2.1 ≤ q)
theorem pg_args (S : pg_S) (As : List Value) : ∀ i : Nat, lv_args i (As.map (pg_up S)) = pg_ml S (lv_args i As) := by
  induction As with
  | nil => intro i; rfl
  | cons v vs ih => intro i; simp only [List.map_cons, lv_args, pg_up_cat, pg_ml]; rw [ih]; rfl
theorem pg_sl (S : pg_S) (As : List Value) : (lg_sl (As.map (pg_up S))).length = (lg_sl As).length := by
  induction As with
  | nil => rfl
  | cons v vs ih =>
    simp only [lg_sl, List.map_cons, List.flatMap_cons, List.length_append] at ih ⊢
    rw [ih, pg_up_cat]
    by_cases h : v.category = 2 <;> simp [h]
/-- a method's contract out of the walk of its body -/
theorem pg_Ev.of {S : pg_S} {Λ : pg_L} {Y : pg_Y} {d : Nat} {As : List Value} {M : pg_M} {P : Option Value → pg_M → Prop} (hy : plainName Y.1.cls = true) (hn : (lg_sl As).length ≤ Y.2.2.1) (h : pg_At S Λ Y d 0 (lv_args 0 As) [] M P) : pg_Ev S Λ Y d As M P := by
  intro rm h1 h2 h3 h4
  refine Met.ofW (cc := Y.2.1) (maxL := Y.2.2.1) (ret := Y.2.2.2) hy rfl ?_
  intro p e s m args below meth c s₁ B hml hv
  obtain ⟨rfl, hR, hK⟩ := hv
  have hts := atoms_spec (ws := Cond.code Y.1 Y.2.1 Y.2.2.1 Y.2.2.2 :: pg_gd) B.pre
  have hl := lv_entry (As.map (pg_up S)) (n := Y.2.2.1) (by rw [pg_sl]; exact hn)
  rw [pg_args] at hl
  rw [lg_entry_eq]
  exact h p e s m _ below meth c s.heap [] (headSpec (Cond.code Y.1 Y.2.1 Y.2.2.1 Y.2.2.2 :: pg_gd) rm).room _ ⟨B.exec, B.bytes, hml, findClass_of_methodNamed B.named, fun w hw => hts w (List.mem_cons_of_mem _ hw), hK, B.returns, B.notSynchronized⟩ ⟨h1, h2⟩ hR (fun q hq => by cases hq) hl
theorem pg_Ev.mono {S : pg_S} {Λ : pg_L} {Y : pg_Y} {d d' : Nat} {As : List Value} {M : pg_M} {P : Option Value → pg_M → Prop} (hd : d ≤ d') (h : pg_Ev S Λ Y d As M P) : pg_Ev S Λ Y d' As M P :=
  fun rm h1 h2 h3 h4 => h rm (by omega) (by omega) h3 h4
theorem pg_Q.imp {S : pg_S} {Λ : pg_L} {P P' : Option Value → pg_M → Prop} (h : ∀ r M, P r M → P' r M) {a : Array Value} {s t : State} {o : Outcome} (hq : pg_Q S Λ P a s o t) : pg_Q S Λ P' a s o t := by
  obtain ⟨r, M, h1, h2, h3⟩ := hq
  exact ⟨r, M, h1, h r M h2, h3⟩
theorem pg_At.imp {S : pg_S} {Λ : pg_L} {Y : pg_Y} {d pc : Nat} {ls : List (Nat × Value)} {st : List Value} {M : pg_M} {P P' : Option Value → pg_M → Prop} (hi : ∀ r M, P r M → P' r M) (h : pg_At S Λ Y d pc ls st M P) : pg_At S Λ Y d pc ls st M P' := by
  intro p e s m args below meth c H locs R lj C hR hM hL hl T hT X
  obtain ⟨t, a, o, h1, h2, h3, h4⟩ := h p e s m args below meth c H locs R lj C hR hM hL hl T hT X
  exact ⟨t, a, o, h1, h2, pg_Q.imp hi h3, h4⟩
section PGI
variable {S : pg_S} {Λ : pg_L} {Y : pg_Y} {d pc : Nat} {ls ls' : List (Nat × Value)} {st : List Value} {M : pg_M} {P : Option Value → pg_M → Prop}
theorem pg_loc {n k i : Nat} {v : Value} {lj : Array Slot} (hl : lv_has lj n (pg_ml S ls)) (hk : ls[k]? = some (i, v)) : lj[i]? = some (.val (pg_up S v)) :=
  lv_at hl k (by simp [pg_ml, List.getElem?_map, hk])
theorem pg_filt (F : Nat × Value → Bool) (hF : ∀ q : Nat × Value, F (q.1, pg_up S q.2) = F q) : (pg_ml S ls).filter F = pg_ml S (ls.filter F) := by
  unfold pg_ml
  rw [List.filter_map]
  congr 2
  funext q
  exact hF q
theorem pg_f1 (i : Nat) : (pg_ml S ls).filter (fun q => !(q.1 == i) && !(q.1 + 1 == i && q.2.category == 2)) = pg_ml S (ls.filter (fun q => !(q.1 == i) && !(q.1 + 1 == i && q.2.category == 2))) := pg_filt _ (fun q => by simp [pg_up_cat])
theorem pg_f2 (i : Nat) : (pg_ml S ls).filter (fun q => !(q.1 == i) && (!(q.1 == i + 1) && !(q.1 + 1 == i && q.2.category == 2))) = pg_ml S (ls.filter (fun q => !(q.1 == i) && (!(q.1 == i + 1) && !(q.1 + 1 == i && q.2.category == 2)))) := pg_filt _ (fun q => by simp [pg_up_cat])
/-- fewer locals, by their places -/
theorem pg_drop {ks : List Nat} (h : lv_pick ls ks = ls') (k : pg_At S Λ Y d pc ls' st M P) : pg_At S Λ Y d pc ls st M P := by
  intro p e s m args below meth c H locs R lj C hR hM hL hl
  refine k p e s m args below meth c H locs R lj C hR hM hL (lv_sub hl ks ?_)
  subst h
  unfold lv_pick pg_ml
  rw [List.map_filterMap]
  congr 1
  funext j
  simp [List.getElem?_map]

theorem pg_iconst {n : Int} {v : Int32} (hdg : decode Y.2.1 pc = .ok (.iconst n, 1)) (hv : Int32.ofInt n = v) (k : pg_At S Λ Y d (pc + 1) ls (.int v :: st) M P) : pg_At S Λ Y d pc ls (st) M P :=
  fun p e s m args below meth c H locs R lj C hR hM hL hl => lv_iconst C.1 C.2.1 hdg hv (k p e s m args below meth c H locs R lj C hR hM hL hl)
theorem pg_bipush {n : Int} {v : Int32} (hdg : decode Y.2.1 pc = .ok (.bipush n, 2)) (hv : (Int8.ofInt n).toInt32 = v) (k : pg_At S Λ Y d (pc + 2) ls (.int v :: st) M P) : pg_At S Λ Y d pc ls (st) M P :=
  fun p e s m args below meth c H locs R lj C hR hM hL hl => lv_bipush C.1 C.2.1 hdg hv (k p e s m args below meth c H locs R lj C hR hM hL hl)
theorem pg_sipush {n : Int} {v : Int32} (hdg : decode Y.2.1 pc = .ok (.sipush n, 3)) (hv : (Int16.ofInt n).toInt32 = v) (k : pg_At S Λ Y d (pc + 3) ls (.int v :: st) M P) : pg_At S Λ Y d pc ls (st) M P :=
  fun p e s m args below meth c H locs R lj C hR hM hL hl => lv_sipush C.1 C.2.1 hdg hv (k p e s m args below meth c H locs R lj C hR hM hL hl)
theorem pg_lconst {n : Fin 2} {v : Int64} (hdg : decode Y.2.1 pc = .ok (.lconst n, 1)) (hv : Int64.ofNat (n : Nat) = v) (k : pg_At S Λ Y d (pc + 1) ls (.long v :: st) M P) : pg_At S Λ Y d pc ls (st) M P :=
  fun p e s m args below meth c H locs R lj C hR hM hL hl => lv_lconst C.1 C.2.1 hdg hv (k p e s m args below meth c H locs R lj C hR hM hL hl)
theorem pg_iadd {x y : Int32} (hdg : decode Y.2.1 pc = .ok (.iadd, 1)) (k : pg_At S Λ Y d (pc + 1) ls (.int (x + y) :: st) M P) : pg_At S Λ Y d pc ls (.int y :: .int x :: st) M P :=
  fun p e s m args below meth c H locs R lj C hR hM hL hl => lv_iadd C.1 C.2.1 hdg (k p e s m args below meth c H locs R lj C hR hM hL hl)
theorem pg_isub {x y : Int32} (hdg : decode Y.2.1 pc = .ok (.isub, 1)) (k : pg_At S Λ Y d (pc + 1) ls (.int (x - y) :: st) M P) : pg_At S Λ Y d pc ls (.int y :: .int x :: st) M P :=
  fun p e s m args below meth c H locs R lj C hR hM hL hl => lv_isub C.1 C.2.1 hdg (k p e s m args below meth c H locs R lj C hR hM hL hl)
theorem pg_imul {x y : Int32} (hdg : decode Y.2.1 pc = .ok (.imul, 1)) (k : pg_At S Λ Y d (pc + 1) ls (.int (x * y) :: st) M P) : pg_At S Λ Y d pc ls (.int y :: .int x :: st) M P :=
  fun p e s m args below meth c H locs R lj C hR hM hL hl => lv_imul C.1 C.2.1 hdg (k p e s m args below meth c H locs R lj C hR hM hL hl)
theorem pg_iand {x y : Int32} (hdg : decode Y.2.1 pc = .ok (.iand, 1)) (k : pg_At S Λ Y d (pc + 1) ls (.int (x &&& y) :: st) M P) : pg_At S Λ Y d pc ls (.int y :: .int x :: st) M P :=
  fun p e s m args below meth c H locs R lj C hR hM hL hl => lv_iand C.1 C.2.1 hdg (k p e s m args below meth c H locs R lj C hR hM hL hl)
theorem pg_ior {x y : Int32} (hdg : decode Y.2.1 pc = .ok (.ior, 1)) (k : pg_At S Λ Y d (pc + 1) ls (.int (x ||| y) :: st) M P) : pg_At S Λ Y d pc ls (.int y :: .int x :: st) M P :=
  fun p e s m args below meth c H locs R lj C hR hM hL hl => lv_ior C.1 C.2.1 hdg (k p e s m args below meth c H locs R lj C hR hM hL hl)
theorem pg_ixor {x y : Int32} (hdg : decode Y.2.1 pc = .ok (.ixor, 1)) (k : pg_At S Λ Y d (pc + 1) ls (.int (x ^^^ y) :: st) M P) : pg_At S Λ Y d pc ls (.int y :: .int x :: st) M P :=
  fun p e s m args below meth c H locs R lj C hR hM hL hl => lv_ixor C.1 C.2.1 hdg (k p e s m args below meth c H locs R lj C hR hM hL hl)
theorem pg_idiv {x y : Int32} (hdg : decode Y.2.1 pc = .ok (.idiv, 1)) (hne : ¬ y = 0) (k : pg_At S Λ Y d (pc + 1) ls (.int (x / y) :: st) M P) : pg_At S Λ Y d pc ls (.int y :: .int x :: st) M P :=
  fun p e s m args below meth c H locs R lj C hR hM hL hl => lv_idiv C.1 C.2.1 hdg hne (k p e s m args below meth c H locs R lj C hR hM hL hl)
theorem pg_irem {x y : Int32} (hdg : decode Y.2.1 pc = .ok (.irem, 1)) (hne : ¬ y = 0) (k : pg_At S Λ Y d (pc + 1) ls (.int (x - x / y * y) :: st) M P) : pg_At S Λ Y d pc ls (.int y :: .int x :: st) M P :=
  fun p e s m args below meth c H locs R lj C hR hM hL hl => lv_irem C.1 C.2.1 hdg hne (k p e s m args below meth c H locs R lj C hR hM hL hl)
theorem pg_ineg {x : Int32} (hdg : decode Y.2.1 pc = .ok (.ineg, 1)) (k : pg_At S Λ Y d (pc + 1) ls (.int (-x) :: st) M P) : pg_At S Λ Y d pc ls (.int x :: st) M P :=
  fun p e s m args below meth c H locs R lj C hR hM hL hl => lv_ineg C.1 C.2.1 hdg (k p e s m args below meth c H locs R lj C hR hM hL hl)
theorem pg_ladd {x y : Int64} (hdg : decode Y.2.1 pc = .ok (.ladd, 1)) (k : pg_At S Λ Y d (pc + 1) ls (.long (x + y) :: st) M P) : pg_At S Λ Y d pc ls (.long y :: .long x :: st) M P :=
  fun p e s m args below meth c H locs R lj C hR hM hL hl => lv_ladd C.1 C.2.1 hdg (k p e s m args below meth c H locs R lj C hR hM hL hl)
theorem pg_lsub {x y : Int64} (hdg : decode Y.2.1 pc = .ok (.lsub, 1)) (k : pg_At S Λ Y d (pc + 1) ls (.long (x - y) :: st) M P) : pg_At S Λ Y d pc ls (.long y :: .long x :: st) M P :=
  fun p e s m args below meth c H locs R lj C hR hM hL hl => lv_lsub C.1 C.2.1 hdg (k p e s m args below meth c H locs R lj C hR hM hL hl)
theorem pg_lmul {x y : Int64} (hdg : decode Y.2.1 pc = .ok (.lmul, 1)) (k : pg_At S Λ Y d (pc + 1) ls (.long (x * y) :: st) M P) : pg_At S Λ Y d pc ls (.long y :: .long x :: st) M P :=
  fun p e s m args below meth c H locs R lj C hR hM hL hl => lv_lmul C.1 C.2.1 hdg (k p e s m args below meth c H locs R lj C hR hM hL hl)
theorem pg_land {x y : Int64} (hdg : decode Y.2.1 pc = .ok (.land, 1)) (k : pg_At S Λ Y d (pc + 1) ls (.long (x &&& y) :: st) M P) : pg_At S Λ Y d pc ls (.long y :: .long x :: st) M P :=
  fun p e s m args below meth c H locs R lj C hR hM hL hl => lv_land C.1 C.2.1 hdg (k p e s m args below meth c H locs R lj C hR hM hL hl)
theorem pg_lor {x y : Int64} (hdg : decode Y.2.1 pc = .ok (.lor, 1)) (k : pg_At S Λ Y d (pc + 1) ls (.long (x ||| y) :: st) M P) : pg_At S Λ Y d pc ls (.long y :: .long x :: st) M P :=
  fun p e s m args below meth c H locs R lj C hR hM hL hl => lv_lor C.1 C.2.1 hdg (k p e s m args below meth c H locs R lj C hR hM hL hl)
theorem pg_lxor {x y : Int64} (hdg : decode Y.2.1 pc = .ok (.lxor, 1)) (k : pg_At S Λ Y d (pc + 1) ls (.long (x ^^^ y) :: st) M P) : pg_At S Λ Y d pc ls (.long y :: .long x :: st) M P :=
  fun p e s m args below meth c H locs R lj C hR hM hL hl => lv_lxor C.1 C.2.1 hdg (k p e s m args below meth c H locs R lj C hR hM hL hl)
theorem pg_ldiv {x y : Int64} (hdg : decode Y.2.1 pc = .ok (.ldiv, 1)) (hne : ¬ y = 0) (k : pg_At S Λ Y d (pc + 1) ls (.long (x / y) :: st) M P) : pg_At S Λ Y d pc ls (.long y :: .long x :: st) M P :=
  fun p e s m args below meth c H locs R lj C hR hM hL hl => lv_ldiv C.1 C.2.1 hdg hne (k p e s m args below meth c H locs R lj C hR hM hL hl)
theorem pg_lrem {x y : Int64} (hdg : decode Y.2.1 pc = .ok (.lrem, 1)) (hne : ¬ y = 0) (k : pg_At S Λ Y d (pc + 1) ls (.long (x - x / y * y) :: st) M P) : pg_At S Λ Y d pc ls (.long y :: .long x :: st) M P :=
  fun p e s m args below meth c H locs R lj C hR hM hL hl => lv_lrem C.1 C.2.1 hdg hne (k p e s m args below meth c H locs R lj C hR hM hL hl)
theorem pg_lneg {x : Int64} (hdg : decode Y.2.1 pc = .ok (.lneg, 1)) (k : pg_At S Λ Y d (pc + 1) ls (.long (-x) :: st) M P) : pg_At S Λ Y d pc ls (.long x :: st) M P :=
  fun p e s m args below meth c H locs R lj C hR hM hL hl => lv_lneg C.1 C.2.1 hdg (k p e s m args below meth c H locs R lj C hR hM hL hl)
theorem pg_ishl {x y : Int32} (hdg : decode Y.2.1 pc = .ok (.ishl, 1)) (k : pg_At S Λ Y d (pc + 1) ls (.int (x <<< (y &&& 31)) :: st) M P) : pg_At S Λ Y d pc ls (.int y :: .int x :: st) M P :=
  fun p e s m args below meth c H locs R lj C hR hM hL hl => lv_ishl C.1 C.2.1 hdg (k p e s m args below meth c H locs R lj C hR hM hL hl)
theorem pg_ishr {x y : Int32} (hdg : decode Y.2.1 pc = .ok (.ishr, 1)) (k : pg_At S Λ Y d (pc + 1) ls (.int (x >>> (y &&& 31)) :: st) M P) : pg_At S Λ Y d pc ls (.int y :: .int x :: st) M P :=
  fun p e s m args below meth c H locs R lj C hR hM hL hl => lv_ishr C.1 C.2.1 hdg (k p e s m args below meth c H locs R lj C hR hM hL hl)
theorem pg_iushr {x y v : Int32} (hdg : decode Y.2.1 pc = .ok (.iushr, 1)) (hv : (x.toUInt32 >>> (y.toUInt32 &&& Int32.toUInt32 31)).toInt32 = v) (k : pg_At S Λ Y d (pc + 1) ls (.int v :: st) M P) : pg_At S Λ Y d pc ls (.int y :: .int x :: st) M P :=
  fun p e s m args below meth c H locs R lj C hR hM hL hl => lv_iushr C.1 C.2.1 hdg hv (k p e s m args below meth c H locs R lj C hR hM hL hl)
theorem pg_lshl {x v : Int64} {y : Int32} (hdg : decode Y.2.1 pc = .ok (.lshl, 1)) (hv : x <<< (y.toInt64 &&& 63) = v) (k : pg_At S Λ Y d (pc + 1) ls (.long v :: st) M P) : pg_At S Λ Y d pc ls (.int y :: .long x :: st) M P :=
  fun p e s m args below meth c H locs R lj C hR hM hL hl => lv_lshl C.1 C.2.1 hdg hv (k p e s m args below meth c H locs R lj C hR hM hL hl)
theorem pg_lshr {x v : Int64} {y : Int32} (hdg : decode Y.2.1 pc = .ok (.lshr, 1)) (hv : x >>> (y.toInt64 &&& 63) = v) (k : pg_At S Λ Y d (pc + 1) ls (.long v :: st) M P) : pg_At S Λ Y d pc ls (.int y :: .long x :: st) M P :=
  fun p e s m args below meth c H locs R lj C hR hM hL hl => lv_lshr C.1 C.2.1 hdg hv (k p e s m args below meth c H locs R lj C hR hM hL hl)
theorem pg_lushr {x v : Int64} {y : Int32} (hdg : decode Y.2.1 pc = .ok (.lushr, 1)) (hv : (x.toUInt64 >>> (y.toInt64.toUInt64 &&& Int64.toUInt64 63)).toInt64 = v) (k : pg_At S Λ Y d (pc + 1) ls (.long v :: st) M P) : pg_At S Λ Y d pc ls (.int y :: .long x :: st) M P :=
  fun p e s m args below meth c H locs R lj C hR hM hL hl => lv_lushr C.1 C.2.1 hdg hv (k p e s m args below meth c H locs R lj C hR hM hL hl)
theorem pg_i2l {x : Int32} {v : Int64} (hdg : decode Y.2.1 pc = .ok (.i2l, 1)) (hv : x.toInt64 = v) (k : pg_At S Λ Y d (pc + 1) ls (.long v :: st) M P) : pg_At S Λ Y d pc ls (.int x :: st) M P :=
  fun p e s m args below meth c H locs R lj C hR hM hL hl => lv_i2l C.1 C.2.1 hdg hv (k p e s m args below meth c H locs R lj C hR hM hL hl)
theorem pg_l2i {x : Int64} {v : Int32} (hdg : decode Y.2.1 pc = .ok (.l2i, 1)) (hv : x.toInt32 = v) (k : pg_At S Λ Y d (pc + 1) ls (.int v :: st) M P) : pg_At S Λ Y d pc ls (.long x :: st) M P :=
  fun p e s m args below meth c H locs R lj C hR hM hL hl => lv_l2i C.1 C.2.1 hdg hv (k p e s m args below meth c H locs R lj C hR hM hL hl)
theorem pg_i2b {x : Int32} {v : Int32} (hdg : decode Y.2.1 pc = .ok (.i2b, 1)) (hv : x.toInt8.toInt32 = v) (k : pg_At S Λ Y d (pc + 1) ls (.int v :: st) M P) : pg_At S Λ Y d pc ls (.int x :: st) M P :=
  fun p e s m args below meth c H locs R lj C hR hM hL hl => lv_i2b C.1 C.2.1 hdg hv (k p e s m args below meth c H locs R lj C hR hM hL hl)
theorem pg_i2s {x : Int32} {v : Int32} (hdg : decode Y.2.1 pc = .ok (.i2s, 1)) (hv : x.toInt16.toInt32 = v) (k : pg_At S Λ Y d (pc + 1) ls (.int v :: st) M P) : pg_At S Λ Y d pc ls (.int x :: st) M P :=
  fun p e s m args below meth c H locs R lj C hR hM hL hl => lv_i2s C.1 C.2.1 hdg hv (k p e s m args below meth c H locs R lj C hR hM hL hl)
theorem pg_i2c {x : Int32} {v : Int32} (hdg : decode Y.2.1 pc = .ok (.i2c, 1)) (hv : (x.toUInt32 % 65536).toInt32 = v) (k : pg_At S Λ Y d (pc + 1) ls (.int v :: st) M P) : pg_At S Λ Y d pc ls (.int x :: st) M P :=
  fun p e s m args below meth c H locs R lj C hR hM hL hl => lv_i2c C.1 C.2.1 hdg hv (k p e s m args below meth c H locs R lj C hR hM hL hl)
theorem pg_dup {va : Value} (hdg : decode Y.2.1 pc = .ok (.dup, 1)) (hva : va.category = 1) (k : pg_At S Λ Y d (pc + 1) ls (va :: va :: st) M P) : pg_At S Λ Y d pc ls (va :: st) M P :=
  fun p e s m args below meth c H locs R lj C hR hM hL hl => lv_dup C.1 C.2.1 hdg (by rw [pg_up_cat]; exact hva) (k p e s m args below meth c H locs R lj C hR hM hL hl)
theorem pg_pop {va : Value} (hdg : decode Y.2.1 pc = .ok (.pop, 1)) (hva : va.category = 1) (k : pg_At S Λ Y d (pc + 1) ls (st) M P) : pg_At S Λ Y d pc ls (va :: st) M P :=
  fun p e s m args below meth c H locs R lj C hR hM hL hl => lv_pop C.1 C.2.1 hdg (by rw [pg_up_cat]; exact hva) (k p e s m args below meth c H locs R lj C hR hM hL hl)
theorem pg_dup_x1 {va vb : Value} (hdg : decode Y.2.1 pc = .ok (.dup_x1, 1)) (hva : va.category = 1) (hvb : vb.category = 1) (k : pg_At S Λ Y d (pc + 1) ls (va :: vb :: va :: st) M P) : pg_At S Λ Y d pc ls (va :: vb :: st) M P :=
  fun p e s m args below meth c H locs R lj C hR hM hL hl => lv_dup_x1 C.1 C.2.1 hdg (by rw [pg_up_cat]; exact hva) (by rw [pg_up_cat]; exact hvb) (k p e s m args below meth c H locs R lj C hR hM hL hl)
theorem pg_dup_x2 {va vb vd : Value} (hdg : decode Y.2.1 pc = .ok (.dup_x2, 1)) (hva : va.category = 1) (hvb : vb.category = 1) (hvd : vd.category = 1) (k : pg_At S Λ Y d (pc + 1) ls (va :: vb :: vd :: va :: st) M P) : pg_At S Λ Y d pc ls (va :: vb :: vd :: st) M P :=
  fun p e s m args below meth c H locs R lj C hR hM hL hl => lv_dup_x2 C.1 C.2.1 hdg (by rw [pg_up_cat]; exact hva) (by rw [pg_up_cat]; exact hvb) (by rw [pg_up_cat]; exact hvd) (k p e s m args below meth c H locs R lj C hR hM hL hl)
theorem pg_dup2_11 {va vb : Value} (hdg : decode Y.2.1 pc = .ok (.dup2, 1)) (hva : va.category = 1) (hvb : vb.category = 1) (k : pg_At S Λ Y d (pc + 1) ls (va :: vb :: va :: vb :: st) M P) : pg_At S Λ Y d pc ls (va :: vb :: st) M P :=
  fun p e s m args below meth c H locs R lj C hR hM hL hl => lv_dup2_11 C.1 C.2.1 hdg (by rw [pg_up_cat]; exact hva) (by rw [pg_up_cat]; exact hvb) (k p e s m args below meth c H locs R lj C hR hM hL hl)
theorem pg_dup2_2 {va : Value} (hdg : decode Y.2.1 pc = .ok (.dup2, 1)) (hva : va.category = 2) (k : pg_At S Λ Y d (pc + 1) ls (va :: va :: st) M P) : pg_At S Λ Y d pc ls (va :: st) M P :=
  fun p e s m args below meth c H locs R lj C hR hM hL hl => lv_dup2_2 C.1 C.2.1 hdg (by rw [pg_up_cat]; exact hva) (k p e s m args below meth c H locs R lj C hR hM hL hl)
theorem pg_pop2_2 {va : Value} (hdg : decode Y.2.1 pc = .ok (.pop2, 1)) (hva : va.category = 2) (k : pg_At S Λ Y d (pc + 1) ls (st) M P) : pg_At S Λ Y d pc ls (va :: st) M P :=
  fun p e s m args below meth c H locs R lj C hR hM hL hl => lv_pop2_2 C.1 C.2.1 hdg (by rw [pg_up_cat]; exact hva) (k p e s m args below meth c H locs R lj C hR hM hL hl)
theorem pg_if_eq {x : Int32} {off : Int} {tgt : Nat} (hdg : decode Y.2.1 pc = .ok (.ifCond .eq off, 3)) (ht : (pc : Int) + off = (tgt : Int)) (kt : x = 0 → pg_At S Λ Y d tgt ls st M P) (kf : ¬ x = 0 → pg_At S Λ Y d (pc + 3) ls st M P) : pg_At S Λ Y d pc ls (.int x :: st) M P :=
  fun p e s m args below meth c H locs R lj C hR hM hL hl => lv_if_eq C.1 C.2.1 hdg ht (fun h9 => kt h9 p e s m args below meth c H locs R lj C hR hM hL hl) (fun h9 => kf h9 p e s m args below meth c H locs R lj C hR hM hL hl)
theorem pg_icmp_eq {x y : Int32} {off : Int} {tgt : Nat} (hdg : decode Y.2.1 pc = .ok (.if_icmp .eq off, 3)) (ht : (pc : Int) + off = (tgt : Int)) (kt : x = y → pg_At S Λ Y d tgt ls st M P) (kf : ¬ x = y → pg_At S Λ Y d (pc + 3) ls st M P) : pg_At S Λ Y d pc ls (.int y :: .int x :: st) M P :=
  fun p e s m args below meth c H locs R lj C hR hM hL hl => lv_icmp_eq C.1 C.2.1 hdg ht (fun h9 => kt h9 p e s m args below meth c H locs R lj C hR hM hL hl) (fun h9 => kf h9 p e s m args below meth c H locs R lj C hR hM hL hl)
theorem pg_if_ne {x : Int32} {off : Int} {tgt : Nat} (hdg : decode Y.2.1 pc = .ok (.ifCond .ne off, 3)) (ht : (pc : Int) + off = (tgt : Int)) (kt : ¬ x = 0 → pg_At S Λ Y d tgt ls st M P) (kf : x = 0 → pg_At S Λ Y d (pc + 3) ls st M P) : pg_At S Λ Y d pc ls (.int x :: st) M P :=
  fun p e s m args below meth c H locs R lj C hR hM hL hl => lv_if_ne C.1 C.2.1 hdg ht (fun h9 => kt h9 p e s m args below meth c H locs R lj C hR hM hL hl) (fun h9 => kf h9 p e s m args below meth c H locs R lj C hR hM hL hl)
theorem pg_icmp_ne {x y : Int32} {off : Int} {tgt : Nat} (hdg : decode Y.2.1 pc = .ok (.if_icmp .ne off, 3)) (ht : (pc : Int) + off = (tgt : Int)) (kt : ¬ x = y → pg_At S Λ Y d tgt ls st M P) (kf : x = y → pg_At S Λ Y d (pc + 3) ls st M P) : pg_At S Λ Y d pc ls (.int y :: .int x :: st) M P :=
  fun p e s m args below meth c H locs R lj C hR hM hL hl => lv_icmp_ne C.1 C.2.1 hdg ht (fun h9 => kt h9 p e s m args below meth c H locs R lj C hR hM hL hl) (fun h9 => kf h9 p e s m args below meth c H locs R lj C hR hM hL hl)
theorem pg_if_lt {x : Int32} {off : Int} {tgt : Nat} (hdg : decode Y.2.1 pc = .ok (.ifCond .lt off, 3)) (ht : (pc : Int) + off = (tgt : Int)) (kt : x < 0 → pg_At S Λ Y d tgt ls st M P) (kf : ¬ x < 0 → pg_At S Λ Y d (pc + 3) ls st M P) : pg_At S Λ Y d pc ls (.int x :: st) M P :=
  fun p e s m args below meth c H locs R lj C hR hM hL hl => lv_if_lt C.1 C.2.1 hdg ht (fun h9 => kt h9 p e s m args below meth c H locs R lj C hR hM hL hl) (fun h9 => kf h9 p e s m args below meth c H locs R lj C hR hM hL hl)
theorem pg_icmp_lt {x y : Int32} {off : Int} {tgt : Nat} (hdg : decode Y.2.1 pc = .ok (.if_icmp .lt off, 3)) (ht : (pc : Int) + off = (tgt : Int)) (kt : x < y → pg_At S Λ Y d tgt ls st M P) (kf : ¬ x < y → pg_At S Λ Y d (pc + 3) ls st M P) : pg_At S Λ Y d pc ls (.int y :: .int x :: st) M P :=
  fun p e s m args below meth c H locs R lj C hR hM hL hl => lv_icmp_lt C.1 C.2.1 hdg ht (fun h9 => kt h9 p e s m args below meth c H locs R lj C hR hM hL hl) (fun h9 => kf h9 p e s m args below meth c H locs R lj C hR hM hL hl)
theorem pg_if_ge {x : Int32} {off : Int} {tgt : Nat} (hdg : decode Y.2.1 pc = .ok (.ifCond .ge off, 3)) (ht : (pc : Int) + off = (tgt : Int)) (kt : 0 ≤ x → pg_At S Λ Y d tgt ls st M P) (kf : ¬ 0 ≤ x → pg_At S Λ Y d (pc + 3) ls st M P) : pg_At S Λ Y d pc ls (.int x :: st) M P :=
  fun p e s m args below meth c H locs R lj C hR hM hL hl => lv_if_ge C.1 C.2.1 hdg ht (fun h9 => kt h9 p e s m args below meth c H locs R lj C hR hM hL hl) (fun h9 => kf h9 p e s m args below meth c H locs R lj C hR hM hL hl)
theorem pg_icmp_ge {x y : Int32} {off : Int} {tgt : Nat} (hdg : decode Y.2.1 pc = .ok (.if_icmp .ge off, 3)) (ht : (pc : Int) + off = (tgt : Int)) (kt : y ≤ x → pg_At S Λ Y d tgt ls st M P) (kf : ¬ y ≤ x → pg_At S Λ Y d (pc + 3) ls st M P) : pg_At S Λ Y d pc ls (.int y :: .int x :: st) M P :=
  fun p e s m args below meth c H locs R lj C hR hM hL hl => lv_icmp_ge C.1 C.2.1 hdg ht (fun h9 => kt h9 p e s m args below meth c H locs R lj C hR hM hL hl) (fun h9 => kf h9 p e s m args below meth c H locs R lj C hR hM hL hl)
theorem pg_if_gt {x : Int32} {off : Int} {tgt : Nat} (hdg : decode Y.2.1 pc = .ok (.ifCond .gt off, 3)) (ht : (pc : Int) + off = (tgt : Int)) (kt : 0 < x → pg_At S Λ Y d tgt ls st M P) (kf : ¬ 0 < x → pg_At S Λ Y d (pc + 3) ls st M P) : pg_At S Λ Y d pc ls (.int x :: st) M P :=
  fun p e s m args below meth c H locs R lj C hR hM hL hl => lv_if_gt C.1 C.2.1 hdg ht (fun h9 => kt h9 p e s m args below meth c H locs R lj C hR hM hL hl) (fun h9 => kf h9 p e s m args below meth c H locs R lj C hR hM hL hl)
theorem pg_icmp_gt {x y : Int32} {off : Int} {tgt : Nat} (hdg : decode Y.2.1 pc = .ok (.if_icmp .gt off, 3)) (ht : (pc : Int) + off = (tgt : Int)) (kt : y < x → pg_At S Λ Y d tgt ls st M P) (kf : ¬ y < x → pg_At S Λ Y d (pc + 3) ls st M P) : pg_At S Λ Y d pc ls (.int y :: .int x :: st) M P :=
  fun p e s m args below meth c H locs R lj C hR hM hL hl => lv_icmp_gt C.1 C.2.1 hdg ht (fun h9 => kt h9 p e s m args below meth c H locs R lj C hR hM hL hl) (fun h9 => kf h9 p e s m args below meth c H locs R lj C hR hM hL hl)
theorem pg_if_le {x : Int32} {off : Int} {tgt : Nat} (hdg : decode Y.2.1 pc = .ok (.ifCond .le off, 3)) (ht : (pc : Int) + off = (tgt : Int)) (kt : x ≤ 0 → pg_At S Λ Y d tgt ls st M P) (kf : ¬ x ≤ 0 → pg_At S Λ Y d (pc + 3) ls st M P) : pg_At S Λ Y d pc ls (.int x :: st) M P :=
  fun p e s m args below meth c H locs R lj C hR hM hL hl => lv_if_le C.1 C.2.1 hdg ht (fun h9 => kt h9 p e s m args below meth c H locs R lj C hR hM hL hl) (fun h9 => kf h9 p e s m args below meth c H locs R lj C hR hM hL hl)
theorem pg_icmp_le {x y : Int32} {off : Int} {tgt : Nat} (hdg : decode Y.2.1 pc = .ok (.if_icmp .le off, 3)) (ht : (pc : Int) + off = (tgt : Int)) (kt : x ≤ y → pg_At S Λ Y d tgt ls st M P) (kf : ¬ x ≤ y → pg_At S Λ Y d (pc + 3) ls st M P) : pg_At S Λ Y d pc ls (.int y :: .int x :: st) M P :=
  fun p e s m args below meth c H locs R lj C hR hM hL hl => lv_icmp_le C.1 C.2.1 hdg ht (fun h9 => kt h9 p e s m args below meth c H locs R lj C hR hM hL hl) (fun h9 => kf h9 p e s m args below meth c H locs R lj C hR hM hL hl)
theorem pg_goto {off : Int} {tgt : Nat} (hdg : decode Y.2.1 pc = .ok (.goto off, 3)) (ht : (pc : Int) + off = (tgt : Int)) (k : pg_At S Λ Y d tgt ls st M P) : pg_At S Λ Y d pc ls st M P :=
  fun p e s m args below meth c H locs R lj C hR hM hL hl => lv_goto C.1 C.2.1 hdg ht (k p e s m args below meth c H locs R lj C hR hM hL hl)
theorem pg_tableOut {dflt lo hi : Int} {offs : Array Int} {len : Nat} {x : Int32} {tgt : Nat} (hdg : decode Y.2.1 pc = .ok (.tableswitch dflt lo hi offs, len)) (h : x.toInt < lo ∨ hi < x.toInt) (ht : (pc : Int) + dflt = (tgt : Int)) (k : pg_At S Λ Y d tgt ls st M P) : pg_At S Λ Y d pc ls (.int x :: st) M P :=
  fun p e s m args below meth c H locs R lj C hR hM hL hl => lv_tableOut C.1 C.2.1 hdg h ht (k p e s m args below meth c H locs R lj C hR hM hL hl)
theorem pg_tableIn {dflt lo hi : Int} {offs : Array Int} {len : Nat} {x : Int32} {off : Int} {tgt : Nat} (hdg : decode Y.2.1 pc = .ok (.tableswitch dflt lo hi offs, len)) (h1 : ¬ x.toInt < lo) (h2 : ¬ hi < x.toInt) (ho : offs[(x.toInt - lo).toNat]? = some off) (ht : (pc : Int) + off = (tgt : Int)) (k : pg_At S Λ Y d tgt ls st M P) : pg_At S Λ Y d pc ls (.int x :: st) M P :=
  fun p e s m args below meth c H locs R lj C hR hM hL hl => lv_tableIn C.1 C.2.1 hdg h1 h2 ho ht (k p e s m args below meth c H locs R lj C hR hM hL hl)
theorem pg_lookup {dflt : Int} {ps : Array (Int × Int)} {len : Nat} {x : Int32} {off : Int} {tgt : Nat} (hdg : decode Y.2.1 pc = .ok (.lookupswitch dflt ps, len)) (hp : (ps.toList.zip (ps.toList.drop 1)).all (fun (a, next) => a.1 < next.1) = true) (ho : Op.lookupswitch.offset ps.toList dflt x.toInt = off) (ht : (pc : Int) + off = (tgt : Int)) (k : pg_At S Λ Y d tgt ls st M P) : pg_At S Λ Y d pc ls (.int x :: st) M P :=
  fun p e s m args below meth c H locs R lj C hR hM hL hl => lv_lookup C.1 C.2.1 hdg hp ho ht (k p e s m args below meth c H locs R lj C hR hM hL hl)
theorem pg_lcmp {x y : Int64} (hdg : decode Y.2.1 pc = .ok (.lcmp, 1)) (k : pg_At S Λ Y d (pc + 1) ls (.int (lg_cmp x y) :: st) M P) : pg_At S Λ Y d pc ls (.long y :: .long x :: st) M P :=
  fun p e s m args below meth c H locs R lj C hR hM hL hl => W.lcmp C.1 C.2.1 hdg (k p e s m args below meth c H locs R lj C hR hM hL hl)
theorem pg_iload_n {k : Fin 4} {i j : Nat} {x : Int32} (hdg : decode Y.2.1 pc = .ok (.iload_n k, 1)) (hi : (k : Nat) = i) (hj : ls[j]? = some (i, .int x)) (kk : pg_At S Λ Y d (pc + 1) ls (.int x :: st) M P) : pg_At S Λ Y d pc ls st M P :=
  fun p e s m args below meth c H locs R lj C hR hM hL hl => lv_iload_n C.1 C.2.1 hdg hi (pg_loc (v := .int x) hl hj) (kk p e s m args below meth c H locs R lj C hR hM hL hl)
theorem pg_iload {i j : Nat} {x : Int32} (hdg : decode Y.2.1 pc = .ok (.iload i, 2)) (hj : ls[j]? = some (i, .int x)) (kk : pg_At S Λ Y d (pc + 2) ls (.int x :: st) M P) : pg_At S Λ Y d pc ls st M P :=
  fun p e s m args below meth c H locs R lj C hR hM hL hl => lv_iload C.1 C.2.1 hdg (pg_loc (v := .int x) hl hj) (kk p e s m args below meth c H locs R lj C hR hM hL hl)
theorem pg_istore_n {k : Fin 4} {i : Nat} {x : Int32} (hdg : decode Y.2.1 pc = .ok (.istore_n k, 1)) (hi : (k : Nat) = i) (hn : i < Y.2.2.1) (hls : (i, Value.int x) :: ls.filter (fun q => !(q.1 == i) && !(q.1 + 1 == i && q.2.category == 2)) = ls') (kk : pg_At S Λ Y d (pc + 1) ls' st M P) : pg_At S Λ Y d pc ls (.int x :: st) M P :=
  fun p e s m args below meth c H locs R lj C hR hM hL hl => lv_istore_n C.1 C.2.1 hdg hi hl hn rfl (fun lj' hl' => kk p e s m args below meth c H locs R lj' C hR hM hL (by rw [pg_f1] at hl'; rw [← hls]; exact hl'))
theorem pg_istore {i : Nat} {x : Int32} (hdg : decode Y.2.1 pc = .ok (.istore i, 2)) (hn : i < Y.2.2.1) (hls : (i, Value.int x) :: ls.filter (fun q => !(q.1 == i) && !(q.1 + 1 == i && q.2.category == 2)) = ls') (kk : pg_At S Λ Y d (pc + 2) ls' st M P) : pg_At S Λ Y d pc ls (.int x :: st) M P :=
  fun p e s m args below meth c H locs R lj C hR hM hL hl => lv_istore C.1 C.2.1 hdg hl hn rfl (fun lj' hl' => kk p e s m args below meth c H locs R lj' C hR hM hL (by rw [pg_f1] at hl'; rw [← hls]; exact hl'))
theorem pg_lload_n {k : Fin 4} {i j : Nat} {x : Int64} (hdg : decode Y.2.1 pc = .ok (.lload_n k, 1)) (hi : (k : Nat) = i) (hj : ls[j]? = some (i, .long x)) (kk : pg_At S Λ Y d (pc + 1) ls (.long x :: st) M P) : pg_At S Λ Y d pc ls st M P :=
  fun p e s m args below meth c H locs R lj C hR hM hL hl => lv_lload_n C.1 C.2.1 hdg hi (pg_loc (v := .long x) hl hj) (kk p e s m args below meth c H locs R lj C hR hM hL hl)
theorem pg_lload {i j : Nat} {x : Int64} (hdg : decode Y.2.1 pc = .ok (.lload i, 2)) (hj : ls[j]? = some (i, .long x)) (kk : pg_At S Λ Y d (pc + 2) ls (.long x :: st) M P) : pg_At S Λ Y d pc ls st M P :=
  fun p e s m args below meth c H locs R lj C hR hM hL hl => lv_lload C.1 C.2.1 hdg (pg_loc (v := .long x) hl hj) (kk p e s m args below meth c H locs R lj C hR hM hL hl)
theorem pg_lstore_n {k : Fin 4} {i : Nat} {x : Int64} (hdg : decode Y.2.1 pc = .ok (.lstore_n k, 1)) (hi : (k : Nat) = i) (hn : i + 1 < Y.2.2.1) (hls : (i, Value.long x) :: ls.filter (fun q => !(q.1 == i) && (!(q.1 == i + 1) && !(q.1 + 1 == i && q.2.category == 2))) = ls') (kk : pg_At S Λ Y d (pc + 1) ls' st M P) : pg_At S Λ Y d pc ls (.long x :: st) M P :=
  fun p e s m args below meth c H locs R lj C hR hM hL hl => lv_lstore_n C.1 C.2.1 hdg hi hl hn rfl (fun lj' hl' => kk p e s m args below meth c H locs R lj' C hR hM hL (by rw [pg_f2] at hl'; rw [← hls]; exact hl'))
theorem pg_lstore {i : Nat} {x : Int64} (hdg : decode Y.2.1 pc = .ok (.lstore i, 2)) (hn : i + 1 < Y.2.2.1) (hls : (i, Value.long x) :: ls.filter (fun q => !(q.1 == i) && (!(q.1 == i + 1) && !(q.1 + 1 == i && q.2.category == 2))) = ls') (kk : pg_At S Λ Y d (pc + 2) ls' st M P) : pg_At S Λ Y d pc ls (.long x :: st) M P :=
  fun p e s m args below meth c H locs R lj C hR hM hL hl => lv_lstore C.1 C.2.1 hdg hl hn rfl (fun lj' hl' => kk p e s m args below meth c H locs R lj' C hR hM hL (by rw [pg_f2] at hl'; rw [← hls]; exact hl'))
theorem pg_aload_n {k : Fin 4} {i j : Nat} {x : Nat} (hdg : decode Y.2.1 pc = .ok (.aload_n k, 1)) (hi : (k : Nat) = i) (hj : ls[j]? = some (i, .ref x)) (kk : pg_At S Λ Y d (pc + 1) ls (.ref x :: st) M P) : pg_At S Λ Y d pc ls st M P :=
  fun p e s m args below meth c H locs R lj C hR hM hL hl => lv_aload_n C.1 C.2.1 hdg hi (pg_loc (v := .ref x) hl hj) (kk p e s m args below meth c H locs R lj C hR hM hL hl)
theorem pg_aload {i j : Nat} {x : Nat} (hdg : decode Y.2.1 pc = .ok (.aload i, 2)) (hj : ls[j]? = some (i, .ref x)) (kk : pg_At S Λ Y d (pc + 2) ls (.ref x :: st) M P) : pg_At S Λ Y d pc ls st M P :=
  fun p e s m args below meth c H locs R lj C hR hM hL hl => lv_aload C.1 C.2.1 hdg (pg_loc (v := .ref x) hl hj) (kk p e s m args below meth c H locs R lj C hR hM hL hl)
theorem pg_astore_n {k : Fin 4} {i : Nat} {x : Nat} (hdg : decode Y.2.1 pc = .ok (.astore_n k, 1)) (hi : (k : Nat) = i) (hn : i < Y.2.2.1) (hls : (i, Value.ref x) :: ls.filter (fun q => !(q.1 == i) && !(q.1 + 1 == i && q.2.category == 2)) = ls') (kk : pg_At S Λ Y d (pc + 1) ls' st M P) : pg_At S Λ Y d pc ls (.ref x :: st) M P :=
  fun p e s m args below meth c H locs R lj C hR hM hL hl => lv_astore_n C.1 C.2.1 hdg hi hl hn rfl (fun lj' hl' => kk p e s m args below meth c H locs R lj' C hR hM hL (by rw [pg_f1] at hl'; rw [← hls]; exact hl'))
theorem pg_astore {i : Nat} {x : Nat} (hdg : decode Y.2.1 pc = .ok (.astore i, 2)) (hn : i < Y.2.2.1) (hls : (i, Value.ref x) :: ls.filter (fun q => !(q.1 == i) && !(q.1 + 1 == i && q.2.category == 2)) = ls') (kk : pg_At S Λ Y d (pc + 2) ls' st M P) : pg_At S Λ Y d pc ls (.ref x :: st) M P :=
  fun p e s m args below meth c H locs R lj C hR hM hL hl => lv_astore C.1 C.2.1 hdg hl hn rfl (fun lj' hl' => kk p e s m args below meth c H locs R lj' C hR hM hL (by rw [pg_f1] at hl'; rw [← hls]; exact hl'))
theorem pg_iinc {i j : Nat} {n : Int} {x v : Int32} (hdg : decode Y.2.1 pc = .ok (.iinc i n, 3)) (hj : ls[j]? = some (i, .int x)) (hv : x + Int32.ofInt n = v) (hn : i < Y.2.2.1) (hls : (i, Value.int v) :: ls.filter (fun q => !(q.1 == i) && !(q.1 + 1 == i && q.2.category == 2)) = ls') (kk : pg_At S Λ Y d (pc + 3) ls' st M P) : pg_At S Λ Y d pc ls st M P :=
  fun p e s m args below meth c H locs R lj C hR hM hL hl => lv_iinc (k := j) C.1 C.2.1 hdg hl (by simp [pg_ml, List.getElem?_map, hj]; rfl) hv hn rfl (fun lj' hl' => kk p e s m args below meth c H locs R lj' C hR hM hL (by rw [pg_f1] at hl'; rw [← hls]; exact hl'))
theorem pg_ldc {index : Nat} {v : Int32} (hw : Cond.constant Y.1.cls index v ∈ pg_gd) (hdg : decode Y.2.1 pc = .ok (.ldc index, 2)) (k : pg_At S Λ Y d (pc + 2) ls (.int v :: st) M P) : pg_At S Λ Y d pc ls st M P :=
  fun p e s m args below meth c H locs R lj C hR hM hL hl => lv_ldc C.1 C.2.1 C.2.2.2.1 (C.2.2.2.2.1 _ hw) hdg (k p e s m args below meth c H locs R lj C hR hM hL hl)
theorem pg_ldcw {index : Nat} {v : Int32} (hw : Cond.constant Y.1.cls index v ∈ pg_gd) (hdg : decode Y.2.1 pc = .ok (.ldc_w index, 3)) (k : pg_At S Λ Y d (pc + 3) ls (.int v :: st) M P) : pg_At S Λ Y d pc ls st M P :=
  fun p e s m args below meth c H locs R lj C hR hM hL hl => lv_ldcw C.1 C.2.1 C.2.2.2.1 (C.2.2.2.2.1 _ hw) hdg (k p e s m args below meth c H locs R lj C hR hM hL hl)
theorem pg_ldc2 {index : Nat} {v : Int64} (hw : Cond.constantLong Y.1.cls index v ∈ pg_gd) (hdg : decode Y.2.1 pc = .ok (.ldc2_w index, 3)) (k : pg_At S Λ Y d (pc + 3) ls (.long v :: st) M P) : pg_At S Λ Y d pc ls st M P :=
  fun p e s m args below meth c H locs R lj C hR hM hL hl => lv_ldc2 C.1 C.2.1 C.2.2.2.1 (C.2.2.2.2.1 _ hw) hdg (k p e s m args below meth c H locs R lj C hR hM hL hl)
end PGI
