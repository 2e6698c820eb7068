/-! the class: Rule -/
def rc_enc (e : Nat × Int32) : Int32 := if e.1 = 1 then e.2 else if e.1 = 2 then -1 - e.2 else if e.1 = 3 then -4 else if e.1 = 4 then -9 else if e.1 = 5 then -10 else if e.1 = 6 then -11 else if e.1 = 7 then -7 else if e.1 = 8 then -8 else if e.1 = 9 then -5 else -6
section PGC
variable {S : pg_S} {Λ : pg_L} {d : Nat} {M : pg_M}
def rc_jc (c x y : Int32) : Int32 := if c = -10 then x - y else if c = -9 then x + y else if c = -8 then (if x = y then 1 else 0) else if c = -7 then (if y ≤ x then 0 else 1) else if c = -6 then (if x = 0 then (if y = 0 then 0 else 1) else 1) else if c = -5 then (if x = 0 then 0 else if y = 0 then 0 else 1) else x * y
theorem rc_joinedc {c x y : Int32} : pg_Ev S Λ YX8_joined d [.int c, .int x, .int y] M (fun r M' => ∃ v, r = some (.int v) ∧ (v = rc_jc c x y ∧ M' = M)) := by
  refine oX8_joined (sX8_joined_0 ?_ ?_ ?_ ?_ ?_ ?_ ?_ ?_ ?_ ?_ ?_ ?_ ?_)
  · intro c1; exact ⟨_, rfl, by simp only [rc_jc, c1, if_true], rfl⟩
  · intro c1 c2; exact ⟨_, rfl, by simp only [rc_jc, if_neg c1, if_pos c2], rfl⟩
  · intro c1 c2 c3 c4; exact ⟨_, rfl, by simp only [rc_jc, if_neg c1, if_neg c2, if_pos c3, if_neg c4], rfl⟩
  · intro c1 c2 c3 c4; exact ⟨_, rfl, by simp only [rc_jc, if_neg c1, if_neg c2, if_pos c3, if_pos c4], rfl⟩
  · intro c1 c2 c3 c4 c5; exact ⟨_, rfl, by simp only [rc_jc, if_neg c1, if_neg c2, if_neg c3, if_pos c4, if_pos c5], rfl⟩
  · intro c1 c2 c3 c4 c5; exact ⟨_, rfl, by simp only [rc_jc, if_neg c1, if_neg c2, if_neg c3, if_pos c4, if_neg c5], rfl⟩
  · intro c1 c2 c3 c4 c5 c6; exact ⟨_, rfl, by simp only [rc_jc, if_neg c1, if_neg c2, if_neg c3, if_neg c4, if_pos c5, if_neg c6], rfl⟩
  · intro c1 c2 c3 c4 c5 c6 c7; exact ⟨_, rfl, by simp only [rc_jc, if_neg c1, if_neg c2, if_neg c3, if_neg c4, if_pos c5, if_pos c6, if_pos c7], rfl⟩
  · intro c1 c2 c3 c4 c5 c6 c7; exact ⟨_, rfl, by simp only [rc_jc, if_neg c1, if_neg c2, if_neg c3, if_neg c4, if_pos c5, if_pos c6, if_neg c7], rfl⟩
  · intro c1 c2 c3 c4 c5 c6 c7; exact ⟨_, rfl, by simp only [rc_jc, if_neg c1, if_neg c2, if_neg c3, if_neg c4, if_neg c5, if_pos c6, if_pos c7], rfl⟩
  · intro c1 c2 c3 c4 c5 c6 c7 c8; exact ⟨_, rfl, by simp only [rc_jc, if_neg c1, if_neg c2, if_neg c3, if_neg c4, if_neg c5, if_pos c6, if_neg c7, if_pos c8], rfl⟩
  · intro c1 c2 c3 c4 c5 c6 c7 c8; exact ⟨_, rfl, by simp only [rc_jc, if_neg c1, if_neg c2, if_neg c3, if_neg c4, if_neg c5, if_pos c6, if_neg c7, if_neg c8], rfl⟩
  · intro c1 c2 c3 c4 c5 c6; exact ⟨_, rfl, by simp only [rc_jc, if_neg c1, if_neg c2, if_neg c3, if_neg c4, if_neg c5, if_neg c6], rfl⟩
theorem rc_jc_enc {op : Nat} {a x y : Int32} (h : 4 ≤ op ∧ op ≤ 10) : rc_jc (rc_enc (op, a)) x y = sp_both op x y := by
  have hx : op = 4 ∨ op = 5 ∨ op = 6 ∨ op = 7 ∨ op = 8 ∨ op = 9 ∨ op = 10 := by omega
  rcases hx with rfl | rfl | rfl | rfl | rfl | rfl | rfl
  · rfl
  · rfl
  · rfl
  · show (if y ≤ x then (0 : Int32) else 1) = (if x < y then 1 else 0)
    by_cases h1 : x < y
    · have : ¬ y ≤ x := by rw [fa_le]; rw [fa_lt] at h1; omega
      simp only [if_pos h1, if_neg this]
    · have : y ≤ x := by rw [fa_le]; rw [fa_lt] at h1; omega
      simp only [if_neg h1, if_pos this]
  · rfl
  · show (if x = 0 then (0 : Int32) else if y = 0 then 0 else 1) = (if ¬ x = 0 ∧ ¬ y = 0 then 1 else 0)
    by_cases h1 : x = 0 <;> by_cases h2 : y = 0 <;> simp [h1, h2]
  · show (if x = 0 then (if y = 0 then (0 : Int32) else 1) else 1) = (if ¬ x = 0 ∨ ¬ y = 0 then 1 else 0)
    by_cases h1 : x = 0 <;> by_cases h2 : y = 0 <;> simp [h1, h2]
theorem rc_fact {a w m z : Int32} (h : a = 0 ∨ a = 1 ∨ a = 2) : pg_Ev S Λ YX8_fact d [.int (rc_enc (2, a)), .int w, .int m, .int z] M (fun r M' => ∃ v, r = some (.int v) ∧ (v = sp_fact w m z a ∧ M' = M)) := by
  refine oX8_fact (sX8_fact_0 ?_ ?_ ?_)
  · intro c1 c2
    rcases h with rfl | rfl | rfl
    · exact absurd (show rc_enc (2, 0) = -1 from rfl) c1
    · exact absurd (show rc_enc (2, 1) = -2 from rfl) c2
    · exact ⟨_, rfl, rfl, rfl⟩
  · intro c1 c2
    rcases h with rfl | rfl | rfl
    · exact absurd (show rc_enc (2, 0) = -1 from rfl) c1
    · exact ⟨_, rfl, rfl, rfl⟩
    · exact absurd (show (-3 : Int32) = -2 from c2) (by decide)
  · intro c1
    rcases h with rfl | rfl | rfl
    · exact ⟨_, rfl, rfl, rfl⟩
    · exact absurd (show (-2 : Int32) = -1 from c1) (by decide)
    · exact absurd (show (-3 : Int32) = -1 from c1) (by decide)
/-- the stack as the memory has it: st from its top down -/
def rc_k (f : Nat → Int32) (st : List Int32) : Prop := ∀ (j : Nat) (x : Int32), st.reverse[j]? = some x → f j = x
theorem rc_k.push {f : Nat → Int32} {st : List Int32} (h : rc_k f st) (x : Int32) : rc_k (upd f st.length x) (x :: st) := by
  intro j y hj
  rw [List.reverse_cons] at hj
  by_cases h1 : j < st.length
  · rw [List.getElem?_append_left (by simpa using h1)] at hj
    rw [pk_un (by omega)]
    exact h j y hj
  · have h2 : j = st.length := by
      have := (List.getElem?_eq_some_iff.mp hj).1
      simp at this
      omega
    subst h2
    rw [List.getElem?_append_right (by simp)] at hj
    simp at hj
    rw [pk_us]; exact hj
theorem rc_k.pop {f : Nat → Int32} {st : List Int32} {x : Int32} (h : rc_k f (x :: st)) : rc_k f st := by
  intro j y hj
  refine h j y ?_
  rw [List.reverse_cons, List.getElem?_append_left (List.getElem?_eq_some_iff.mp hj).1]
  exact hj
theorem rc_k.top {f : Nat → Int32} {st : List Int32} {x : Int32} (h : rc_k f (x :: st)) : f st.length = x := by
  refine h st.length x ?_
  rw [List.reverse_cons, List.getElem?_append_right (by simp)]
  simp
theorem rc_value_at {r : Nat} (hr : pg_isX8 Λ r) {w m z : Int32} {len : Nat} (hlen : len ≤ 1000) {M0 : pg_M} : ∀ (cs : List (Nat × Int32)) (i : Nat) (st : List Int32) (M : pg_M), i + cs.length = len → M.1 r 2 = nI len → (∀ (j : Nat) (e : Nat × Int32), cs[j]? = some e → M.1 (r + 1) (i + j) = rc_enc e) → rc_k (M.1 (r + 2)) st → st.length ≤ 30 → sp_dep 30 cs st.length 1 → pg_fr [r + 2] M0 M →
    pg_At S Λ YX8_value (d + 1) 6 [(0, .ref r), (1, .int w), (2, .int m), (3, .int z), (4, .int (nI st.length)), (5, .int (nI i))] [] M (fun q M' => ∃ v, q = some (.int v) ∧ (v = (sp_rp w m z cs st).headD 0 ∧ pg_fr [r + 2] M0 M')) := by
  intro cs
  induction cs with
  | nil =>
    intro i st M hi hl hc hk hst hd hf
    simp only [sp_dep] at hd
    simp only [List.length_nil, Nat.add_zero] at hi
    subst hi
    have c9 : M.1 r 2 ≤ nI i := by rw [hl]; exact nI_le (Nat.le_refl _) (by omega)
    refine sX8_value_6 (Q0 := fun _ _ => True) (Q1 := fun _ _ => True) hr ?_ ?_ ?_ ?_ ?_ ?_ ?_ ?_ ?_ ?_ ?_ ?_ ?_ ?_ ?_ ?_ ?_ ?_
    · intro c1 c2
      rw [hd] at c2
      exact absurd c2 (by decide)
    · intro c1 c2
      obtain ⟨x, rfl⟩ : ∃ x, st = [x] := by
        match st, hd with
        | [x], _ => exact ⟨x, rfl⟩
      refine ⟨_, rfl, ?_, hf⟩
      have := hk.top
      simp only [List.length_nil] at this
      exact this
    all_goals exact fun c1 => absurd c9 c1
  | cons e cs ih =>
    intro i st M hi hl hc hk hst hd hf
    have he : M.1 (r + 1) i = rc_enc e := hc 0 e rfl
    have hi' : i < len := by simp only [List.length_cons] at hi; omega
    have c9 : ¬ M.1 r 2 ≤ nI i := by rw [hl]; exact nI_ge hi' (by omega)
    have hcl : (nI i).toNatClampNeg = i := nI_clamp (by omega)
    have hcs : (nI st.length).toNatClampNeg = st.length := nI_clamp (by omega)
    have hin : vp_in (nI i) 1000 := vp_in_nI (by omega) (by decide)
    have hc' : ∀ (j : Nat) (e' : Nat × Int32), cs[j]? = some e' → M.1 (r + 1) (i + 1 + j) = rc_enc e' := by
      intro j e' hj
      have := hc (j + 1) e' (by simpa using hj)
      rw [show i + 1 + j = i + (j + 1) by omega]
      exact this
    have ne1 : r + 2 ≠ r := by omega
    have hi2 : i + 1 + cs.length = len := by simp only [List.length_cons] at hi; omega
    have hput : ∀ (k : Nat) (x : Int32), (pg_si M (r + 2) k x).1 r 2 = nI len := fun k x => by rw [pg_si_ne (by omega)]; exact hl
    have hcode : ∀ (k : Nat) (x : Int32) (j : Nat) (e' : Nat × Int32), cs[j]? = some e' → (pg_si M (r + 2) k x).1 (r + 1) (i + 1 + j) = rc_enc e' := fun k x j e' hj => by rw [pg_si_ne (by omega)]; exact hc' j e' hj
    have hfr : ∀ (k : Nat) (x : Int32), pg_fr [r + 2] M0 (pg_si M (r + 2) k x) := fun k x => hf.trans (pg_fr.si (List.mem_singleton.mpr rfl))
    obtain ⟨op, a⟩ := e
    simp only [sp_dep] at hd
    by_cases h1 : op = 1
    · subst h1
      simp only [if_true] at hd
      obtain ⟨hd1, hd2, hd3⟩ := hd
      have hX : M.1 (r + 1) (nI i).toNatClampNeg = a := by rw [hcl]; exact he
      have hn4 : ¬ M.1 (r + 1) (nI i).toNatClampNeg ≤ -4 := by
        rw [hX]; intro q; have h9 := hd2.1; rw [fa_le] at q h9
        have e1 : (-4 : Int32).toInt = -4 := rfl
        have e2 : (0 : Int32).toInt = 0 := rfl
        omega
      have hng : ¬ M.1 (r + 1) (nI i).toNatClampNeg < 0 := by
        rw [hX]; intro q; have h9 := hd2.1; rw [fa_lt] at q; rw [fa_le] at h9; omega
      have hlt : ¬ Int32.ofNat 32 ≤ nI st.length := nI_ge (a := st.length) (b := 32) (by omega) (by decide)
      refine sX8_value_6 (Q0 := fun _ _ => True) (Q1 := fun _ _ => True) hr (fun c _ => absurd c c9) (fun c _ => absurd c c9) (fun _ => hin) (fun _ c => absurd c hn4) (fun _ c => absurd c hn4) (fun _ c => absurd c hn4) (fun _ c => absurd c hn4) (fun _ c => absurd c hn4) (fun _ c => absurd c hn4) (fun _ c => absurd c hn4) (fun _ c => absurd c hn4) (fun _ c => absurd c hn4) (fun _ _ c => absurd c hlt) (fun _ _ _ c => absurd c hng) (fun _ _ _ c => absurd c hng) (fun _ _ _ c => absurd c hng) (fun _ _ _ _ => vp_in_nI (by omega) (by decide)) (fun _ _ _ _ => ?_)
      rw [nI_1, nI_1, hcs, hX]
      refine ih (i + 1) (a :: st) _ hi2 (hput _ _) (hcode _ _) ?_ (by simp only [List.length_cons]; omega) hd3 (hfr _ _)
      rw [pg_si_at]
      exact hk.push a
    · by_cases h2 : op = 2
      · subst h2
        simp only [if_true] at hd
        obtain ⟨hd1, hd2, hd3⟩ := hd
        have hX : M.1 (r + 1) (nI i).toNatClampNeg = rc_enc (2, a) := by rw [hcl]; exact he
        have hn4 : ¬ M.1 (r + 1) (nI i).toNatClampNeg ≤ -4 := by
          rw [hX]; rcases hd2 with rfl | rfl | rfl <;> decide
        have hng : M.1 (r + 1) (nI i).toNatClampNeg < 0 := by
          rw [hX]; rcases hd2 with rfl | rfl | rfl <;> decide
        have hlt : ¬ Int32.ofNat 32 ≤ nI st.length := nI_ge (a := st.length) (b := 32) (by omega) (by decide)
        refine sX8_value_6 (Q0 := fun _ _ => True) (Q1 := fun v M' => v = sp_fact w m z a ∧ M' = M) hr (fun c _ => absurd c c9) (fun c _ => absurd c c9) (fun _ => hin) (fun _ c => absurd c hn4) (fun _ c => absurd c hn4) (fun _ c => absurd c hn4) (fun _ c => absurd c hn4) (fun _ c => absurd c hn4) (fun _ c => absurd c hn4) (fun _ c => absurd c hn4) (fun _ c => absurd c hn4) (fun _ c => absurd c hn4) (fun _ _ c => absurd c hlt) (fun _ _ _ _ => by rw [hX]; exact rc_fact hd2) (fun _ _ _ _ _ _ _ => vp_in_nI (by omega) (by decide)) (fun _ _ _ _ x2 M2 q => ?_) (fun _ _ _ c => absurd hng c) (fun _ _ _ c => absurd hng c)
        obtain ⟨rfl, rfl⟩ := q
        rw [nI_1, nI_1, hcs]
        refine ih (i + 1) (sp_fact w m z a :: st) _ hi2 (hput _ _) (hcode _ _) ?_ (by simp only [List.length_cons]; omega) hd3 (hfr _ _)
        rw [pg_si_at]
        exact hk.push _
      · by_cases h3 : op = 3
        · subst h3
          simp only [if_true] at hd
          obtain ⟨hd1, hd3⟩ := hd
          have hX : M.1 (r + 1) (nI i).toNatClampNeg = -4 := by rw [hcl]; exact he
          have hn4 : M.1 (r + 1) (nI i).toNatClampNeg ≤ -4 := by rw [hX]; decide
          obtain ⟨x, st, rfl⟩ : ∃ x st', st = x :: st' := by
            match st, hd1 with
            | x :: st', _ => exact ⟨x, st', rfl⟩
          simp only [List.length_cons] at hst hd3 hcs ⊢
          have ht0 : ¬ nI (st.length + 1) ≤ 0 := nI_nle (by omega) (by omega)
          have htop : M.1 (r + 2) (nI (st.length + 1) - 1).toNatClampNeg = x := by rw [nI_pred, nI_clamp (by omega)]; exact hk.top
          have hnx : rc_k (upd (M.1 (r + 2)) st.length (if x = 0 then 1 else 0)) ((if x = 0 then 1 else 0) :: st) := hk.pop.push _
          refine sX8_value_6 (Q0 := fun _ _ => True) (Q1 := fun _ _ => True) hr (fun c _ => absurd c c9) (fun c _ => absurd c c9) (fun _ => hin) (fun _ _ c => absurd hX c) (fun _ _ c => absurd hX c) (fun _ _ c => absurd hX c) (fun _ _ c => absurd hX c) (fun _ _ c => absurd hX c) (fun _ _ _ c => absurd c ht0) (fun _ _ _ _ => by rw [nI_pred]; exact vp_in_nI (by omega) (by decide)) (fun _ _ _ _ c => ?_) (fun _ _ _ _ c => ?_) (fun _ c => absurd hn4 c) (fun _ c => absurd hn4 c) (fun _ c => absurd hn4 c) (fun _ c => absurd hn4 c) (fun _ c => absurd hn4 c) (fun _ c => absurd hn4 c)
          · rw [htop] at c
            rw [nI_1, nI_pred, nI_clamp (show st.length < 2 ^ 31 by omega)]
            rw [if_neg c] at hnx
            have := ih (i + 1) (0 :: st) (pg_si M (r + 2) st.length 0) hi2 (hput _ _) (hcode _ _) (by rw [pg_si_at]; exact hnx) (by simp only [List.length_cons]; omega) hd3 (hfr _ _)
            simp only [sp_rp, sp_step]
            simpa [c] using this
          · rw [htop] at c
            rw [nI_1, nI_pred, nI_clamp (show st.length < 2 ^ 31 by omega)]
            rw [if_pos c] at hnx
            have := ih (i + 1) (1 :: st) (pg_si M (r + 2) st.length 1) hi2 (hput _ _) (hcode _ _) (by rw [pg_si_at]; exact hnx) (by simp only [List.length_cons]; omega) hd3 (hfr _ _)
            simp only [sp_rp, sp_step]
            simpa [c] using this
        · simp only [h1, h2, h3, if_false] at hd
          obtain ⟨hd1, hd2, hd3⟩ := hd
          have hX : M.1 (r + 1) (nI i).toNatClampNeg = rc_enc (op, a) := by rw [hcl]; exact he
          have hx : op = 4 ∨ op = 5 ∨ op = 6 ∨ op = 7 ∨ op = 8 ∨ op = 9 ∨ op = 10 := by omega
          have hn4 : M.1 (r + 1) (nI i).toNatClampNeg ≤ -4 := by
            rw [hX]
            rcases hx with rfl | rfl | rfl | rfl | rfl | rfl | rfl
            · show (-9 : Int32) ≤ -4; decide
            · show (-10 : Int32) ≤ -4; decide
            · show (-11 : Int32) ≤ -4; decide
            · show (-7 : Int32) ≤ -4; decide
            · show (-8 : Int32) ≤ -4; decide
            · show (-5 : Int32) ≤ -4; decide
            · show (-6 : Int32) ≤ -4; decide
          have hne : ¬ M.1 (r + 1) (nI i).toNatClampNeg = -4 := by
            rw [hX]
            rcases hx with rfl | rfl | rfl | rfl | rfl | rfl | rfl
            · show ¬ (-9 : Int32) = -4; decide
            · show ¬ (-10 : Int32) = -4; decide
            · show ¬ (-11 : Int32) = -4; decide
            · show ¬ (-7 : Int32) = -4; decide
            · show ¬ (-8 : Int32) = -4; decide
            · show ¬ (-5 : Int32) = -4; decide
            · show ¬ (-6 : Int32) = -4; decide
          obtain ⟨y, x, st, rfl⟩ : ∃ y x st', st = y :: x :: st' := by
            match st, hd2 with
            | y :: x :: st', _ => exact ⟨y, x, st', rfl⟩
          simp only [List.length_cons] at hst hd3 hcs ⊢
          have ht1 : ¬ nI (st.length + 1 + 1) ≤ 1 := by
            rw [show (1 : Int32) = nI 1 from rfl, nI_leI (by omega) (by omega)]; omega
          have hm1 : nI (st.length + 1 + 1) + (-1) = nI (st.length + 1) := pk_m1 _
          have hy : M.1 (r + 2) (st.length + 1) = y := hk.top
          have hxx : M.1 (r + 2) st.length = x := hk.pop.top
          refine sX8_value_6 (Q0 := fun v M' => v = sp_both op x y ∧ M' = M) (Q1 := fun _ _ => True) hr (fun c _ => absurd c c9) (fun c _ => absurd c c9) (fun _ => hin) (fun _ _ _ c => absurd c ht1) (fun _ _ _ _ => by rw [hm1, nI_pred]; exact vp_in_nI (by omega) (by decide)) (fun _ _ _ _ => by rw [hm1]; exact vp_in_nI (by omega) (by decide)) (fun _ _ _ _ => ?_) (fun _ _ _ _ x1 M1 q => ?_) (fun _ _ c => absurd c hne) (fun _ _ c => absurd c hne) (fun _ _ c => absurd c hne) (fun _ _ c => absurd c hne) (fun _ c => absurd hn4 c) (fun _ c => absurd hn4 c) (fun _ c => absurd hn4 c) (fun _ c => absurd hn4 c) (fun _ c => absurd hn4 c) (fun _ c => absurd hn4 c)
          · rw [hX, hm1, nI_pred, nI_clamp (show st.length < 2 ^ 31 by omega), nI_clamp (show st.length + 1 < 2 ^ 31 by omega), hy, hxx]
            exact pg_Ev.imp (fun r9 M9 q => by obtain ⟨v, e1, e2, e3⟩ := q; exact ⟨v, e1, e2.trans (rc_jc_enc hd1), e3⟩) rc_joinedc
          · obtain ⟨rfl, rfl⟩ := q
            rw [nI_1, hm1, nI_pred, nI_clamp (show st.length < 2 ^ 31 by omega)]
            have := ih (i + 1) (sp_both op x y :: st) _ hi2 (hput st.length (sp_both op x y)) (hcode _ _) (by rw [pg_si_at]; exact hk.pop.pop.push _) (by simp only [List.length_cons]; omega) hd3 (hfr _ _)
            have hs9 : sp_step w m z op a (y :: x :: st) = sp_both op x y :: st := by simp only [sp_step, h1, h2, h3, if_false]
            simp only [sp_rp, hs9]
            exact this
/-- Rule.value: what the law says; its stack alone is written -/
theorem rc_value {r : Nat} {cs : List (Nat × Int32)} {w m z : Int32} (hr : pg_isX8 Λ r) (hU : rc_U M r cs) (hk : sp_ok cs) : pg_Ev S Λ YX8_value (d + 1) [.ref r, .int w, .int m, .int z] M (fun q M' => ∃ v, q = some (.int v) ∧ (v = sp_val cs w m z ∧ pg_fr [r + 2] M M')) := by
  refine oX8_value (sX8_value_0 ?_)
  have := rc_value_at (S := S) (d := d) hr (w := w) (m := m) (z := z) hU.2.1 (M0 := M) cs 0 [] M (by simp) hU.1 (fun j e hj => by rw [Nat.zero_add]; exact hU.2.2 j e hj) (fun j x hj => by simp at hj) (by simp) hk pg_fr.rfl'
  exact this
end PGC
