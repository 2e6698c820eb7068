/-! what is known where the law begins -/
section PNK
variable {s : State} {A : Array Value}
theorem kn_gd (hts : ∀ w ∈ lw_tbl, w.before A s = true) : ∀ w ∈ pg_gd, w.before A s = true := fun w hw => hts w (List.mem_filter.mp hw).1
theorem kn_D (hts : ∀ w ∈ lw_tbl, w.before A s = true) : ∃ D : va_G, ∀ (c : Nat) (q : vw_C), pg_cls[c]? = some q → u_Kn s q.1 q.2.1 q.2.2 (D.1 c) (D.2 c) := by
  have hg := kn_gd hts
  have h0 : ∀ c : Nat, ∃ x : ClassId × (Nat → Nat), ∀ q : vw_C, pg_cls[c]? = some q → u_Kn s q.1 q.2.1 q.2.2 x.1 x.2 := by
    intro c
    match c with
    | 0 =>
      obtain ⟨cC, iS, h⟩ := u_known (T := TX0) (N := 2) hg pg_inX0 (hts (Cond.instantiable RX0 2) (pg_t1 215 rfl))
      exact ⟨(cC, iS), fun q hq => by cases hq; exact h⟩
    | 1 =>
      obtain ⟨cC, iS, h⟩ := u_known (T := TX1) (N := 6) hg pg_inX1 (hts (Cond.instantiable RX1 6) (pg_t2 133 rfl))
      exact ⟨(cC, iS), fun q hq => by cases hq; exact h⟩
    | 2 =>
      obtain ⟨cC, iS, h⟩ := u_known (T := TX2) (N := 6) hg pg_inX2 (hts (Cond.instantiable RX2 6) (pg_t1 116 rfl))
      exact ⟨(cC, iS), fun q hq => by cases hq; exact h⟩
    | 3 =>
      obtain ⟨cC, iS, h⟩ := u_known (T := TX3) (N := 10) hg pg_inX3 (hts (Cond.instantiable RX3 10) (pg_t1 175 rfl))
      exact ⟨(cC, iS), fun q hq => by cases hq; exact h⟩
    | 4 =>
      obtain ⟨cC, iS, h⟩ := u_known (T := TX4) (N := 6) hg pg_inX4 (hts (Cond.instantiable RX4 6) (pg_t1 228 rfl))
      exact ⟨(cC, iS), fun q hq => by cases hq; exact h⟩
    | 5 =>
      obtain ⟨cC, iS, h⟩ := u_known (T := TX5) (N := 16) hg pg_inX5 (hts (Cond.instantiable RX5 16) (pg_t2 16 rfl))
      exact ⟨(cC, iS), fun q hq => by cases hq; exact h⟩
    | 6 =>
      obtain ⟨cC, iS, h⟩ := u_known (T := TX6) (N := 6) hg pg_inX6 (hts (Cond.instantiable RX6 6) (pg_t1 142 rfl))
      exact ⟨(cC, iS), fun q hq => by cases hq; exact h⟩
    | 7 =>
      obtain ⟨cC, iS, h⟩ := u_known (T := TX7) (N := 10) hg pg_inX7 (hts (Cond.instantiable RX7 10) (pg_t1 35 rfl))
      exact ⟨(cC, iS), fun q hq => by cases hq; exact h⟩
    | 8 =>
      obtain ⟨cC, iS, h⟩ := u_known (T := TX8) (N := 3) hg pg_inX8 (hts (Cond.instantiable RX8 3) (pg_t2 22 rfl))
      exact ⟨(cC, iS), fun q hq => by cases hq; exact h⟩
    | 9 =>
      obtain ⟨cC, iS, h⟩ := u_known (T := TX9) (N := 6) hg pg_inX9 (hts (Cond.instantiable RX9 6) (pg_t1 74 rfl))
      exact ⟨(cC, iS), fun q hq => by cases hq; exact h⟩
    | 10 =>
      obtain ⟨cC, iS, h⟩ := u_known (T := TX10) (N := 13) hg pg_inX10 (hts (Cond.instantiable RX10 13) (pg_t1 27 rfl))
      exact ⟨(cC, iS), fun q hq => by cases hq; exact h⟩
    | 11 =>
      obtain ⟨cC, iS, h⟩ := u_known (T := TX11) (N := 38) hg pg_inX11 (hts (Cond.instantiable RX11 38) (pg_t6 54 rfl))
      exact ⟨(cC, iS), fun q hq => by cases hq; exact h⟩
    | k + 12 => exact ⟨(default, fun _ => 0), fun q hq => by simp [pg_cls] at hq⟩
  obtain ⟨f, hf⟩ := Classical.axiomOfChoice h0
  exact ⟨(fun c => (f c).1, fun c => (f c).2), hf⟩
theorem kn_arr {ty : FieldType} (hne : ∀ C, ty ≠ .object C) (h : (Cond.arrayClass ty).before A s = true) : ∃ cA : ClassId, ArrOfT s cA ty ∧ va_RA s cA ty := by
  obtain ⟨cA, kA, comp, h1, h2, h3⟩ := Cond.arrayClass_spec h
  refine ⟨cA, fun n z => ⟨fun k h => (by cases h), kA, h2, comp, h3⟩, ?_⟩
  cases ty with
  | object C => exact absurd rfl (hne C)
  | _ => exact h1
theorem kn_obj {C : String} (h : va_AO C s) : ∃ cA : ClassId, ArrOfT s cA (.object C) ∧ va_RA s cA (.object C) := by
  obtain ⟨comp, cA, kA, h1, h2, h3, h4, h5⟩ := Cond.arrayOver_spec h
  exact ⟨cA, fun n z => ⟨fun k h => (by cases h), kA, h3, comp, h4⟩, kA, comp, h3, h4, h1, h5⟩
theorem kn_AO (hts : ∀ w ∈ lw_tbl, w.before A s = true) : pn_AO s := ⟨va_AO.of (hts (Cond.arrayOver (.object "PegLaws$State")) (pg_t1 148 rfl)), va_AO.of (hts (Cond.arrayOver (.object "PegLaws$Felt")) (pg_t1 150 rfl))⟩
theorem kn_T (hts : ∀ w ∈ lw_tbl, w.before A s = true) : ∃ tc : FieldType → ClassId, ∀ (k : Nat) (q : ClassId × FieldType), (pg_tys.map fun t => (tc t, t))[k]? = some q → ArrOfT s q.1 q.2 ∧ va_RA s q.1 q.2 := by
  have hg := kn_gd hts
  have h0 : ∀ t : FieldType, ∃ cA : ClassId, t ∈ pg_tys → ArrOfT s cA t ∧ va_RA s cA t := by
    intro t
    by_cases ht : t ∈ pg_tys
    · have h9 : ∃ cA : ClassId, ArrOfT s cA t ∧ va_RA s cA t := by
        unfold pg_tys at ht
        simp only [List.mem_cons, List.not_mem_nil, or_false] at ht
        rcases ht with rfl | rfl | rfl | rfl | rfl | rfl
        · exact kn_arr (by intro C h; cases h) (hg _ pn_acint)
        · exact kn_arr (by intro C h; cases h) (hg _ pn_aclong)
        · exact kn_arr (by intro C h; cases h) (hg _ pn_acboolean)
        · exact kn_arr (by intro C h; cases h) (hg _ pn_acchar)
        · exact kn_obj (kn_AO hts).1
        · exact kn_obj (kn_AO hts).2
      obtain ⟨cA, h⟩ := h9
      exact ⟨cA, fun _ => h⟩
    · exact ⟨default, fun h => absurd h ht⟩
  obtain ⟨f, hf⟩ := Classical.axiomOfChoice h0
  refine ⟨f, fun k q hq => ?_⟩
  rw [List.getElem?_map] at hq
  cases ht : pg_tys[k]? with
  | none => rw [ht] at hq; cases hq
  | some t =>
    rw [ht] at hq
    cases Option.some.inj hq
    exact hf t (List.mem_of_getElem? ht)
theorem kn_N (hts : ∀ w ∈ lw_tbl, w.before A s = true) : ∀ w ∈ lw_tbl, pg_nest w = true → va_Nw w s := by
  intro w hw hn
  refine va_Nw.of ?_ (hts w hw)
  cases w <;> first | rfl | cases hn
end PNK
