/-! the reference: what a law says -/
def rm_jc (c x y : Int32) : Int32 := if c = 4 then x + y else if c = 5 then x - y else if c = 6 then x * y else if c = 7 then (if y ≤ x then 0 else 1) else if c = 8 then (if x = y then 1 else 0) else if c = 9 then (if x = 0 then 0 else if y = 0 then 0 else 1) else (if x = 0 then (if y = 0 then 0 else 1) else 1)
section PGR
variable {S : pg_S} {Λ : pg_L} {d b h : Nat} {M : pg_M} {L s : sp_N} {E : sp_E}
theorem rm_bothc {c x y : Int32} : pg_Ev S Λ YX11_both d [.int c, .int x, .int y] M (fun r M' => ∃ v, r = some (.int v) ∧ (v = rm_jc c x y ∧ M' = M)) := by
  refine oX11_both (sX11_both_0 ?_ ?_ ?_ ?_ ?_ ?_ ?_ ?_ ?_ ?_ ?_ ?_ ?_)
  · intro c1; exact ⟨_, rfl, by simp only [rm_jc, c1, if_true], rfl⟩
  · intro c1 c2; exact ⟨_, rfl, by simp only [rm_jc, if_neg c1, if_pos c2], rfl⟩
  · intro c1 c2 c3; exact ⟨_, rfl, by simp only [rm_jc, if_neg c1, if_neg c2, if_pos c3], rfl⟩
  · intro c1 c2 c3 c4 c5; exact ⟨_, rfl, by simp only [rm_jc, if_neg c1, if_neg c2, if_neg c3, if_pos c4, if_pos c5], rfl⟩
  · intro c1 c2 c3 c4 c5; exact ⟨_, rfl, by simp only [rm_jc, if_neg c1, if_neg c2, if_neg c3, if_pos c4, if_neg c5], rfl⟩
  · intro c1 c2 c3 c4 c5 c6; exact ⟨_, rfl, by simp only [rm_jc, if_neg c1, if_neg c2, if_neg c3, if_neg c4, if_pos c5, if_neg c6], rfl⟩
  · intro c1 c2 c3 c4 c5 c6; exact ⟨_, rfl, by simp only [rm_jc, if_neg c1, if_neg c2, if_neg c3, if_neg c4, if_pos c5, if_pos c6], rfl⟩
  · intro c1 c2 c3 c4 c5 c6 c7; exact ⟨_, rfl, by simp only [rm_jc, if_neg c1, if_neg c2, if_neg c3, if_neg c4, if_neg c5, if_pos c6, if_pos c7], rfl⟩
  · intro c1 c2 c3 c4 c5 c6 c7 c8; exact ⟨_, rfl, by simp only [rm_jc, if_neg c1, if_neg c2, if_neg c3, if_neg c4, if_neg c5, if_pos c6, if_neg c7, if_pos c8], rfl⟩
  · intro c1 c2 c3 c4 c5 c6 c7 c8; exact ⟨_, rfl, by simp only [rm_jc, if_neg c1, if_neg c2, if_neg c3, if_neg c4, if_neg c5, if_pos c6, if_neg c7, if_neg c8], rfl⟩
  · intro c1 c2 c3 c4 c5 c6 c7; exact ⟨_, rfl, by simp only [rm_jc, if_neg c1, if_neg c2, if_neg c3, if_neg c4, if_neg c5, if_neg c6, if_neg c7], rfl⟩
  · intro c1 c2 c3 c4 c5 c6 c7 c8; exact ⟨_, rfl, by simp only [rm_jc, if_neg c1, if_neg c2, if_neg c3, if_neg c4, if_neg c5, if_neg c6, if_pos c7, if_pos c8], rfl⟩
  · intro c1 c2 c3 c4 c5 c6 c7 c8; exact ⟨_, rfl, by simp only [rm_jc, if_neg c1, if_neg c2, if_neg c3, if_neg c4, if_neg c5, if_neg c6, if_pos c7, if_neg c8], rfl⟩
theorem rm_jc_op {op : Nat} {x y : Int32} (h : 4 ≤ op ∧ op ≤ 10) : rm_jc (nI op) x y = sp_both op x y := by
  have q : ∀ k : Nat, k < 11 → (nI op = nI k ↔ op = k) := fun k hk => nI_eq (by omega) (by omega)
  have q4 : nI op = 4 ↔ op = 4 := q 4 (by omega)
  have q5 : nI op = 5 ↔ op = 5 := q 5 (by omega)
  have q6 : nI op = 6 ↔ op = 6 := q 6 (by omega)
  have q7 : nI op = 7 ↔ op = 7 := q 7 (by omega)
  have q8 : nI op = 8 ↔ op = 8 := q 8 (by omega)
  have q9 : nI op = 9 ↔ op = 9 := q 9 (by omega)
  have e7 : (if y ≤ x then (0 : Int32) else 1) = (if x < y then 1 else 0) := by
    by_cases h1 : x < y
    · have : ¬ y ≤ x := by rw [fa_le]; rw [fa_lt] at h1; omega
      simp only [if_pos h1, if_neg this]
    · have : y ≤ x := by rw [fa_le]; rw [fa_lt] at h1; omega
      simp only [if_neg h1, if_pos this]
  have e9 : (if x = 0 then (0 : Int32) else if y = 0 then 0 else 1) = (if ¬ x = 0 ∧ ¬ y = 0 then 1 else 0) := by
    by_cases h1 : x = 0 <;> by_cases h2 : y = 0 <;> simp [h1, h2]
  have e10 : (if x = 0 then (if y = 0 then (0 : Int32) else 1) else 1) = (if ¬ x = 0 ∨ ¬ y = 0 then 1 else 0) := by
    by_cases h1 : x = 0 <;> by_cases h2 : y = 0 <;> simp [h1, h2]
  unfold rm_jc sp_both
  simp only [q4, q5, q6, q7, q8, q9, e7, e9, e10]
theorem rm_worth_at (hR : pg_isX11 Λ) {w m z : Int32} {M0 : pg_M} : ∀ (cs : List (Nat × Int32)) (i : Nat) (st : List Int32) (M : pg_M), i + cs.length < 1100 → M.1 214 (i + cs.length) = 0 → (∀ (j : Nat) (e : Nat × Int32), cs[j]? = some e → M.1 214 (i + j) = nI e.1 ∧ M.1 215 (i + j) = e.2) → (M.1 219 0 = w ∧ M.1 219 1 = m ∧ M.1 219 2 = z) → rc_k (M.1 220) st → st.length ≤ 30 → sp_dep 30 cs st.length 1 → pg_fr [220] M0 M →
    pg_At S Λ YX11_worthAt (d + 1) 4 [(0, .ref 207), (2, .int (nI st.length)), (3, .int (nI i))] [] M (fun q M' => ∃ v, q = some (.int v) ∧ (v = (sp_rp w m z cs st).headD 0 ∧ pg_fr [220] M0 M')) := by
  intro cs
  induction cs with
  | nil =>
    intro i st M hi h0 hc hF hk hst hd hf
    simp only [sp_dep] at hd
    simp only [List.length_nil, Nat.add_zero] at hi h0
    have hcl : (nI i).toNatClampNeg = i := nI_clamp (by omega)
    have c9 : M.1 214 (nI i).toNatClampNeg = 0 := by rw [hcl]; exact h0
    refine sX11_worthAt_4 (Q0 := fun _ _ => True) hR (vp_in_nI (by omega) (by decide)) ?_ ?_ ?_ ?_ ?_ ?_ ?_ ?_ ?_ ?_ ?_ ?_ ?_ ?_ ?_ ?_ ?_ ?_
    · intro _
      obtain ⟨x, rfl⟩ : ∃ x, st = [x] := by
        match st, hd with
        | [x], _ => exact ⟨x, rfl⟩
      refine ⟨_, rfl, ?_, hf⟩
      have := hk.top
      simp only [List.length_nil] at this
      rw [tn_0]
      exact this
    all_goals exact fun c1 => absurd c9 c1
  | cons e cs ih =>
    intro i st M hi h0 hc hF hk hst hd hf
    have hcl : (nI i).toNatClampNeg = i := nI_clamp (by omega)
    have hcs : (nI st.length).toNatClampNeg = st.length := nI_clamp (by omega)
    have hin : vp_in (nI i) 2200 := vp_in_nI (by omega) (by decide)
    have hc' : ∀ (j : Nat) (e' : Nat × Int32), cs[j]? = some e' → M.1 214 (i + 1 + j) = nI e'.1 ∧ M.1 215 (i + 1 + j) = e'.2 := by
      intro j e' hj
      have := hc (j + 1) e' (by simpa using hj)
      rw [show i + 1 + j = i + (j + 1) by omega]
      exact this
    have hi2 : i + 1 + cs.length < 1100 := by simp only [List.length_cons] at hi; omega
    have h02 : M.1 214 (i + 1 + cs.length) = 0 := by simp only [List.length_cons] at h0; rw [show i + 1 + cs.length = i + (cs.length + 1) by omega]; exact h0
    have he1 : M.1 214 (nI i).toNatClampNeg = nI e.1 := by rw [hcl]; exact (hc 0 e rfl).1
    have he2 : M.1 215 (nI i).toNatClampNeg = e.2 := by rw [hcl]; exact (hc 0 e rfl).2
    have hput : ∀ (k : Nat) (x : Int32), (pg_si M 220 k x).1 214 (i + 1 + cs.length) = 0 := fun k x => by rw [pg_si_ne (by omega)]; exact h02
    have hcode : ∀ (k : Nat) (x : Int32) (j : Nat) (e' : Nat × Int32), cs[j]? = some e' → (pg_si M 220 k x).1 214 (i + 1 + j) = nI e'.1 ∧ (pg_si M 220 k x).1 215 (i + 1 + j) = e'.2 := fun k x j e' hj => by rw [pg_si_ne (by omega), pg_si_ne (by omega)]; exact hc' j e' hj
    have hfac : ∀ (k : Nat) (x : Int32), (pg_si M 220 k x).1 219 0 = w ∧ (pg_si M 220 k x).1 219 1 = m ∧ (pg_si M 220 k x).1 219 2 = z := fun k x => by rw [pg_si_ne (by omega)]; exact hF
    have hfr : ∀ (k : Nat) (x : Int32), pg_fr [220] M0 (pg_si M 220 k x) := fun k x => hf.trans (pg_fr.si (List.mem_singleton.mpr rfl))
    obtain ⟨op, a⟩ := e
    simp only at he1 he2
    simp only [sp_dep] at hd
    have hop : 1 ≤ op ∧ op ≤ 10 := by
      by_cases h1 : op = 1
      · omega
      · by_cases h2 : op = 2
        · omega
        · by_cases h3 : op = 3
          · omega
          · simp only [h1, h2, h3, if_false] at hd; omega
    have hlit : ∀ k : Nat, k < 11 → (M.1 214 (nI i).toNatClampNeg = nI k ↔ op = k) := fun k hk9 => by rw [he1, nI_eq (by omega) (by omega)]
    have n0 : ¬ M.1 214 (nI i).toNatClampNeg = 0 := by rw [show (0 : Int32) = nI 0 from rfl, hlit 0 (by omega)]; omega
    have q1 : M.1 214 (nI i).toNatClampNeg = 1 ↔ op = 1 := hlit 1 (by omega)
    have q2 : M.1 214 (nI i).toNatClampNeg = 2 ↔ op = 2 := hlit 2 (by omega)
    have q3 : M.1 214 (nI i).toNatClampNeg = 3 ↔ op = 3 := hlit 3 (by omega)
    by_cases h1 : op = 1
    · subst h1
      simp only [if_true] at hd
      obtain ⟨hd1, hd2, hd3⟩ := hd
      have y1 := q1.mpr rfl
      refine sX11_worthAt_4 (Q0 := fun _ _ => True) hR hin (fun c => absurd c n0) (fun _ _ c => absurd y1 c) (fun _ _ c => absurd y1 c) (fun _ _ c => absurd y1 c) (fun _ _ _ => vp_in_nI (by omega) (by decide)) (fun _ _ _ => ?_) (fun _ c => absurd y1 c) (fun _ c => absurd y1 c) (fun _ c => absurd y1 c) (fun _ c => absurd y1 c) (fun _ c => absurd y1 c) (fun _ c => absurd y1 c) (fun _ c => absurd y1 c) (fun _ c => absurd y1 c) (fun _ c => absurd y1 c) (fun _ c => absurd y1 c) (fun _ c => absurd y1 c) (fun _ c => absurd y1 c)
      rw [nI_1, nI_1, hcs, he2]
      refine ih (i + 1) (a :: st) _ hi2 (hput _ _) (hcode _ _) (hfac _ _) ?_ (by simp only [List.length_cons]; omega) hd3 (hfr _ _)
      rw [pg_si_at]
      exact hk.push a
    · have n1 : ¬ M.1 214 (nI i).toNatClampNeg = 1 := fun q => h1 (q1.mp q)
      by_cases h2 : op = 2
      · subst h2
        simp only [if_true] at hd
        obtain ⟨hd1, hd2, hd3⟩ := hd
        have y2 := q2.mpr rfl
        have hfa : M.1 219 (M.1 215 (nI i).toNatClampNeg).toNatClampNeg = sp_fact w m z a := by
          rw [he2]
          rcases hd2 with rfl | rfl | rfl
          · exact hF.1
          · exact hF.2.1
          · exact hF.2.2
        have hvi : vp_in (M.1 215 (nI i).toNatClampNeg) 3 := by
          rw [he2]
          rcases hd2 with rfl | rfl | rfl <;> unfold vp_in <;> decide
        refine sX11_worthAt_4 (Q0 := fun _ _ => True) hR hin (fun c => absurd c n0) (fun _ c => absurd c n1) (fun _ c => absurd c n1) (fun _ c => absurd c n1) (fun _ c => absurd c n1) (fun _ c => absurd c n1) (fun _ _ c => absurd y2 c) (fun _ _ c => absurd y2 c) (fun _ _ c => absurd y2 c) (fun _ _ c => absurd y2 c) (fun _ _ c => absurd y2 c) (fun _ _ c => absurd y2 c) (fun _ _ c => absurd y2 c) (fun _ _ _ _ => hvi) (fun _ _ _ _ => vp_in_nI (by omega) (by decide)) (fun _ _ _ _ => ?_) (fun _ _ _ c => absurd c n1) (fun _ _ _ c => absurd c n1)
        rw [nI_1, nI_1, hcs, hfa]
        refine ih (i + 1) (sp_fact w m z a :: st) _ hi2 (hput _ _) (hcode _ _) (hfac _ _) ?_ (by simp only [List.length_cons]; omega) hd3 (hfr _ _)
        rw [pg_si_at]
        exact hk.push _
      · have n2 : ¬ M.1 214 (nI i).toNatClampNeg = 2 := fun q => h2 (q2.mp q)
        by_cases h3 : op = 3
        · subst h3
          simp only [if_true] at hd
          obtain ⟨hd1, hd3⟩ := hd
          have y3 := q3.mpr rfl
          obtain ⟨x, st, rfl⟩ : ∃ x st', st = x :: st' := by
            match st, hd1 with
            | x :: st', _ => exact ⟨x, st', rfl⟩
          simp only [List.length_cons] at hst hd3 hcs ⊢
          have htop : M.1 220 (nI (st.length + 1) - 1).toNatClampNeg = x := by rw [nI_pred, nI_clamp (by omega)]; exact hk.top
          have hnx : rc_k (upd (M.1 220) st.length (if x = 0 then 1 else 0)) ((if x = 0 then 1 else 0) :: st) := hk.pop.push _
          refine sX11_worthAt_4 (Q0 := fun _ _ => True) hR hin (fun c => absurd c n0) (fun _ c => absurd c n1) (fun _ c => absurd c n1) (fun _ c => absurd c n1) (fun _ c => absurd c n1) (fun _ c => absurd c n1) (fun _ _ _ c => absurd y3 c) (fun _ _ _ c => absurd y3 c) (fun _ _ _ c => absurd y3 c) (fun _ _ _ c => absurd y3 c) (fun _ _ _ _ => by rw [nI_pred]; exact vp_in_nI (by omega) (by decide)) (fun _ _ _ _ c => ?_) (fun _ _ _ _ c => ?_) (fun _ _ c => absurd c n2) (fun _ _ c => absurd c n2) (fun _ _ c => absurd c n2) (fun _ _ c => absurd c n2) (fun _ _ c => absurd c n2)
          · rw [htop] at c
            rw [nI_1, nI_pred, nI_clamp (show st.length < 2 ^ 31 by omega)]
            rw [if_neg c] at hnx
            have := ih (i + 1) (0 :: st) (pg_si M 220 st.length 0) hi2 (hput _ _) (hcode _ _) (hfac _ _) (by rw [pg_si_at]; exact hnx) (by simp only [List.length_cons]; omega) hd3 (hfr _ _)
            simp only [sp_rp, sp_step]
            simpa [c] using this
          · rw [htop] at c
            rw [nI_1, nI_pred, nI_clamp (show st.length < 2 ^ 31 by omega)]
            rw [if_pos c] at hnx
            have := ih (i + 1) (1 :: st) (pg_si M 220 st.length 1) hi2 (hput _ _) (hcode _ _) (hfac _ _) (by rw [pg_si_at]; exact hnx) (by simp only [List.length_cons]; omega) hd3 (hfr _ _)
            simp only [sp_rp, sp_step]
            simpa [c] using this
        · simp only [h1, h2, h3, if_false] at hd
          obtain ⟨hd1, hd2, hd3⟩ := hd
          have n3 : ¬ M.1 214 (nI i).toNatClampNeg = 3 := fun q => h3 (q3.mp q)
          obtain ⟨y, x, st, rfl⟩ : ∃ y x st', st = y :: x :: st' := by
            match st, hd2 with
            | y :: x :: st', _ => exact ⟨y, x, st', rfl⟩
          simp only [List.length_cons] at hst hd3 hcs ⊢
          have hm1 : nI (st.length + 1 + 1) + (-1) = nI (st.length + 1) := pk_m1 _
          have hy : M.1 220 (st.length + 1) = y := hk.top
          have hxx : M.1 220 st.length = x := hk.pop.top
          refine sX11_worthAt_4 (Q0 := fun v M' => v = sp_both op x y ∧ M' = M) hR hin (fun c => absurd c n0) (fun _ c => absurd c n1) (fun _ c => absurd c n1) (fun _ c => absurd c n1) (fun _ c => absurd c n1) (fun _ c => absurd c n1) (fun _ _ _ _ => by rw [hm1, nI_pred]; exact vp_in_nI (by omega) (by decide)) (fun _ _ _ _ => by rw [hm1]; exact vp_in_nI (by omega) (by decide)) (fun _ _ _ _ => ?_) (fun _ _ _ _ x1 M1 q => ?_) (fun _ _ _ c => absurd c n3) (fun _ _ _ c => absurd c n3) (fun _ _ _ c => absurd c n3) (fun _ _ c => absurd c n2) (fun _ _ c => absurd c n2) (fun _ _ c => absurd c n2) (fun _ _ c => absurd c n2) (fun _ _ c => absurd c n2)
          · rw [he1, hm1, nI_pred, nI_clamp (show st.length < 2 ^ 31 by omega), nI_clamp (show st.length + 1 < 2 ^ 31 by omega), hy, hxx]
            exact pg_Ev.imp (fun r9 M9 q => by obtain ⟨v, e1, e2, e3⟩ := q; exact ⟨v, e1, e2.trans (rm_jc_op hd1), e3⟩) rm_bothc
          · obtain ⟨rfl, rfl⟩ := q
            rw [nI_1, hm1, nI_pred, nI_clamp (show st.length < 2 ^ 31 by omega)]
            have := ih (i + 1) (sp_both op x y :: st) _ hi2 (hput st.length (sp_both op x y)) (hcode _ _) (hfac _ _) (by rw [pg_si_at]; exact hk.pop.pop.push _) (by simp only [List.length_cons]; omega) hd3 (hfr _ _)
            have hs9 : sp_step w m z op a (y :: x :: st) = sp_both op x y :: st := by simp only [sp_step, h1, h2, h3, if_false]
            simp only [sp_rp, hs9]
            exact this
theorem rm_worthAt {fr : Nat} {cs : List (Nat × Int32)} {w m z : Int32} (hR : pg_isX11 Λ) (hU : rm_U M fr cs) (hk : sp_ok cs) (hF : M.1 219 0 = w ∧ M.1 219 1 = m ∧ M.1 219 2 = z) : pg_Ev S Λ YX11_worthAt (d + 1) [.ref 207, .int (nI fr)] M (fun q M' => ∃ v, q = some (.int v) ∧ (v = sp_val cs w m z ∧ pg_fr [220] M M')) := by
  refine oX11_worthAt (sX11_worthAt_0 ?_)
  exact rm_worth_at (S := S) (d := d) hR (w := w) (m := m) (z := z) (M0 := M) cs fr [] M hU.1 hU.2.1 hU.2.2 hF (fun j x hj => by simp at hj) (by simp) hk pg_fr.rfl'
theorem rm_laysFacts {c wet wind : Nat} (hc : c < L 4 0) (hR : pg_isX11 Λ) (hl : rm_L M L E) (hk : sp_okL L E) : pg_Ev S Λ YX11_laysFacts (d + 1) [.ref 207, .int (nI c), .int (nI wet), .int (nI wind)] M (fun r M' => r = none ∧ ((M'.1 219 0 = nI wind ∧ M'.1 219 1 = nI (sp_mass L c wet) ∧ M'.1 219 2 = nI (L 1 c)) ∧ pg_fr [219] M M')) := by
  have h3 := (hk.2.1 c).1
  have k0 := fun (k : Nat) (v : Int32) => hl.keep (X := [219]) (M' := pg_si M 219 k v) (pg_fr.si (by simp)) (by simp) (by simp) (by simp)
  refine oX11_laysFacts (sX11_laysFacts_0 (Q0 := fun v M' => v = nI (L 2 c) ∧ M' = pg_si M 219 0 (nI wind)) (Q1 := fun v M' => v = nI (L 0 c) ∧ M' = pg_si M 219 0 (nI wind)) (Q2 := fun v M' => v = nI (L 1 c) ∧ M' = pg_si (pg_si M 219 0 (nI wind)) 219 1 (nI (L 2 c) + nI wet)) (Q3 := fun v M' => v = nI (L 1 c) ∧ M' = pg_si (pg_si M 219 0 (nI wind)) 219 1 (nI (L 2 c) + 2 * nI wet)) hR ?_ ?_ ?_ ?_ ?_ ?_)
  · rw [tn_0]; exact rm_clothOf (k := 2) hc (by decide) hR (k0 _ _) hk
  · rintro x1 M1 ⟨rfl, rfl⟩; exact rm_clothOf (k := 0) hc (by decide) hR (k0 _ _) hk
  · rintro x1 M1 ⟨rfl, rfl⟩ x2 M2 ⟨rfl, rfl⟩ c1
    rw [tn_1]
    exact rm_clothOf (k := 1) hc (by decide) hR ((k0 _ _).keep (X := [219]) (pg_fr.si (by simp)) (by simp) (by simp) (by simp)) hk
  · rintro x1 M1 ⟨rfl, rfl⟩ x2 M2 ⟨rfl, rfl⟩ c1 x3 M3 ⟨rfl, rfl⟩
    rw [show (3 : Int32) = nI 3 from rfl, nI_eq (by omega) (by omega)] at c1
    rw [tn_2]
    refine ⟨rfl, ⟨?_, ?_, ?_⟩, ((pg_fr.si (by simp)).trans (pg_fr.si (by simp))).trans (pg_fr.si (by simp))⟩
    · rw [pg_si_at, pk_un (by decide), pg_si_at, pk_un (by decide), pg_si_at, pk_us]
    · rw [pg_si_at, pk_un (by decide), pg_si_at, pk_us, nI_add]; simp only [sp_mass, if_neg c1]
    · rw [pg_si_at, pk_us]
  · rintro x1 M1 ⟨rfl, rfl⟩ x2 M2 ⟨rfl, rfl⟩ c1
    rw [tn_1]
    exact rm_clothOf (k := 1) hc (by decide) hR ((k0 _ _).keep (X := [219]) (pg_fr.si (by simp)) (by simp) (by simp) (by simp)) hk
  · rintro x1 M1 ⟨rfl, rfl⟩ x2 M2 ⟨rfl, rfl⟩ c1 x3 M3 ⟨rfl, rfl⟩
    rw [show (3 : Int32) = nI 3 from rfl, nI_eq (by omega) (by omega)] at c1
    rw [tn_2]
    refine ⟨rfl, ⟨?_, ?_, ?_⟩, ((pg_fr.si (by simp)).trans (pg_fr.si (by simp))).trans (pg_fr.si (by simp))⟩
    · rw [pg_si_at, pk_un (by decide), pg_si_at, pk_un (by decide), pg_si_at, pk_us]
    · rw [pg_si_at, pk_un (by decide), pg_si_at, pk_us, show (2 : Int32) = nI 2 from rfl, pk_mul, nI_add]; simp only [sp_mass, if_pos c1]
    · rw [pg_si_at, pk_us]
theorem sp_cut_cases {n : Nat} {x : Int32} (hn : n < 2 ^ 31) : (0 ≤ x → x ≤ nI n → x = nI (sp_cut n x)) ∧ (0 ≤ x → ¬ x ≤ nI n → sp_cut n x = n) ∧ (¬ 0 ≤ x → sp_cut n x = 0) := by
  refine ⟨fun h1 h2 => ?_, fun h1 h2 => ?_, fun h1 => ?_⟩
  · have h3 : ¬ x < 0 := by rw [fa_lt]; rw [fa_le] at h1; omega
    obtain ⟨j, hj, rfl⟩ := nI_of h3
    rw [nI_leI hj hn] at h2
    have h4 : ¬ nI n < nI j := by rw [nI_ltI hn hj]; omega
    simp only [sp_cut, h3, h4, if_false]
    rw [nI_clamp hj]
  · have h3 : ¬ x < 0 := by rw [fa_lt]; rw [fa_le] at h1; omega
    have h4 : nI n < x := by rw [fa_lt]; rw [fa_le] at h2; omega
    simp only [sp_cut, h3, h4, if_false, if_true]
  · have h3 : x < 0 := by rw [fa_lt]; rw [fa_le] at h1; omega
    simp only [sp_cut, h3, if_true]
theorem rm_pullOf {c wet wind : Nat} (hc : c < L 4 0) (hR : pg_isX11 Λ) (hl : rm_L M L E) (hk : sp_okL L E) : pg_Ev S Λ YX11_pullOf (d + 2) [.ref 207, .int (nI c), .int (nI wet), .int (nI wind)] M (fun r M' => ∃ v, r = some (.int v) ∧ (v = nI (sp_pull L E c wet wind) ∧ pg_fr [219, 220] M M')) := by
  have h3 := (hk.2.1 c).1
  have end51 : ∀ (M2 : pg_M) (x : Int32), x = sp_val (E 0) (nI wind) (nI (sp_mass L c wet)) (nI (L 1 c)) → pg_fr [219, 220] M M2 → pg_At S Λ YX11_pullOf (d + 2) 51 [(0, .ref 207), (1, .int (nI c))] [.int x] M2 (fun r M' => ∃ v, r = some (.int v) ∧ (v = nI (sp_pull L E c wet wind) ∧ pg_fr [219, 220] M M')) := by
    intro M2 x hx hf
    have hl2 := hl.keep hf (by simp) (by simp) (by simp)
    have hcut := sp_cut_cases (n := 99) (x := x) (by decide)
    have hco : pg_Ev S Λ YX11_clothOf (d + 1) [.ref 207, .int (nI c), .int 0] M2 (fun r M' => ∃ x, r = some (.int x) ∧ (x = nI (L 0 c) ∧ M' = M2)) := rm_clothOf (k := 0) hc (by decide) hR hl2 hk
    have no : ¬ nI (L 0 c) = 2 → nI (sp_cut 99 x) = nI (sp_pull L E c wet wind) := fun q => by
      rw [show (2 : Int32) = nI 2 from rfl, nI_eq (by omega) (by omega)] at q
      simp only [sp_pull, if_neg q, ← hx]
    have yes : nI (L 0 c) = 2 → 2 * nI (sp_cut 99 x) = nI (sp_pull L E c wet wind) := fun q => by
      rw [show (2 : Int32) = nI 2 from rfl, nI_eq (by omega) (by omega)] at q
      rw [show (2 : Int32) = nI 2 from rfl, pk_mul]
      simp only [sp_pull, if_pos q, ← hx]
    refine sX11_pullOf_51 (Q0 := fun v M' => v = nI (L 0 c) ∧ M' = M2) (Q1 := fun v M' => v = nI (L 0 c) ∧ M' = M2) (Q2 := fun v M' => v = nI (L 0 c) ∧ M' = M2) hR (fun _ _ => hco) ?_ ?_ (fun _ _ => hco) ?_ ?_ (fun _ => hco) ?_ ?_
    · rintro c1 c2 x1 M1 ⟨rfl, rfl⟩ c3
      exact ⟨_, rfl, (hcut.1 c1 c2).trans (no c3), hf⟩
    · rintro c1 c2 x1 M1 ⟨rfl, rfl⟩ c3
      exact ⟨_, rfl, by rw [← yes c3, ← hcut.1 c1 c2], hf⟩
    · rintro c1 c2 x1 M1 ⟨rfl, rfl⟩ c3
      exact ⟨_, rfl, by rw [← no c3, hcut.2.1 c1 c2]; rfl, hf⟩
    · rintro c1 c2 x1 M1 ⟨rfl, rfl⟩ c3
      exact ⟨_, rfl, by rw [← yes c3, hcut.2.1 c1 c2]; rfl, hf⟩
    · rintro c1 x1 M1 ⟨rfl, rfl⟩ c3
      exact ⟨_, rfl, by rw [← no c3, hcut.2.2 c1]; rfl, hf⟩
    · rintro c1 x1 M1 ⟨rfl, rfl⟩ c3
      exact ⟨_, rfl, by rw [← yes c3, hcut.2.2 c1]; rfl, hf⟩
  refine oX11_pullOf (sX11_pullOf_0 (Q0 := fun M' => (M'.1 219 0 = nI wind ∧ M'.1 219 1 = nI (sp_mass L c wet) ∧ M'.1 219 2 = nI (L 1 c)) ∧ pg_fr [219] M M') (Q1 := fun v M' => v = sp_val (E 0) (nI wind) (nI (sp_mass L c wet)) (nI (L 1 c)) ∧ pg_fr [219, 220] M M') hR (rm_laysFacts hc hR hl hk) ?_ ?_ ?_)
  · rintro M1 ⟨hF, hf⟩ c1
    have hl1 := hl.keep hf (by simp) (by simp) (by simp)
    rw [tn_6] at c1 ⊢
    rcases hl1.2.2.2.2.2.2.2.2.2.2.1 with ⟨e1, e2⟩ | ⟨fr, e1, e2⟩
    · rw [show 6 + 0 = 6 from rfl] at e1; rw [e1] at c1; exact absurd c1 (by decide)
    · rw [show 6 + 0 = 6 from rfl] at e1
      rw [e1]
      exact pg_Ev.imp (fun r M' q => by obtain ⟨v, g1, g2, g3⟩ := q; exact ⟨v, g1, g2, (hf.mono (by simp)).trans (g3.mono (by simp))⟩) (rm_worthAt hR e2 hk.2.2.2.2.2.2.2.2.1 hF)
  · rintro M1 ⟨hF, hf⟩ c1 x2 M2 ⟨e1, e2⟩
    exact end51 M2 x2 e1 e2
  · rintro M1 ⟨hF, hf⟩ c1
    have hl1 := hl.keep hf (by simp) (by simp) (by simp)
    rw [tn_6] at c1
    rw [tn_0, tn_1, tn_2, hF.1, hF.2.1, hF.2.2]
    rcases hl1.2.2.2.2.2.2.2.2.2.2.1 with ⟨e1, e2⟩ | ⟨fr, e1, e2⟩
    · exact end51 M1 _ (by rw [e2, sp_def_0]) (hf.mono (by simp))
    · rw [show 6 + 0 = 6 from rfl] at e1; rw [e1] at c1; exact absurd (nI_pos' (by have := e2.1; omega)) c1
theorem rm_driedOf {c wet wind : Nat} (hc : c < L 4 0) (hwet : wet < 2 ^ 30) (hR : pg_isX11 Λ) (hl : rm_L M L E) (hk : sp_okL L E) : pg_Ev S Λ YX11_driedOf (d + 2) [.ref 207, .int (nI c), .int (nI wet), .int (nI wind)] M (fun r M' => ∃ v, r = some (.int v) ∧ (v = nI (sp_dry L E c wet wind) ∧ pg_fr [219, 220] M M')) := by
  have end37 : ∀ (M2 : pg_M) (x : Int32), x = sp_val (E 1) (nI wind) (nI (sp_mass L c wet)) (nI (L 1 c)) → pg_fr [219, 220] M M2 → pg_At S Λ YX11_driedOf (d + 2) 37 [(2, .int (nI wet))] [.int x] M2 (fun r M' => ∃ v, r = some (.int v) ∧ (v = nI (sp_dry L E c wet wind) ∧ pg_fr [219, 220] M M')) := by
    intro M2 x hx hf
    have hcut := sp_cut_cases (n := 9) (x := x) (by decide)
    have hle := sp_cut_le 9 x (by decide)
    have hdry : sp_dry L E c wet wind = wet - sp_cut 9 x := by unfold sp_dry; rw [hx]
    have pos : ∀ y : Nat, y ≤ 9 → 0 ≤ nI wet - nI y → nI wet - nI y = nI (wet - y) := fun y hy q => by
      by_cases h1 : y ≤ wet
      · exact pk_sub h1
      · have := pk_sneg (a := wet) (b := y) (by omega) (by omega)
        rw [fa_lt] at this; rw [fa_le] at q; omega
    have neg : ∀ y : Nat, y ≤ 9 → ¬ 0 ≤ nI wet - nI y → wet - y = 0 := fun y hy q => by
      by_cases h1 : y ≤ wet
      · rw [pk_sub h1] at q; exact absurd (nI_pos' (by omega)) q
      · omega
    refine sX11_driedOf_37 (fun c1 c2 c3 => ?_) (fun c1 c2 c3 => ?_) (fun c1 c2 c3 => ?_) (fun c1 c2 c3 => ?_) (fun c1 c3 => ?_) (fun c1 c3 => ?_)
    · have e := hcut.1 c1 c2
      rw [e] at c3
      exact ⟨_, rfl, by rw [hdry, ← pos _ hle c3, ← e], hf⟩
    · have e := hcut.1 c1 c2
      rw [e] at c3
      exact ⟨_, rfl, by rw [hdry, neg _ hle c3, nI_0], hf⟩
    · exact ⟨_, rfl, by rw [hdry, hcut.2.1 c1 c2]; exact pos 9 (by omega) c3, hf⟩
    · exact ⟨_, rfl, by rw [hdry, hcut.2.1 c1 c2, neg 9 (by omega) c3, nI_0], hf⟩
    · exact ⟨_, rfl, by rw [hdry, hcut.2.2 c1]; exact pos 0 (by omega) c3, hf⟩
    · exact ⟨_, rfl, by rw [hdry, hcut.2.2 c1, neg 0 (by omega) c3, nI_0], hf⟩
  refine oX11_driedOf (sX11_driedOf_0 (Q0 := fun M' => (M'.1 219 0 = nI wind ∧ M'.1 219 1 = nI (sp_mass L c wet) ∧ M'.1 219 2 = nI (L 1 c)) ∧ pg_fr [219] M M') (Q1 := fun v M' => v = sp_val (E 1) (nI wind) (nI (sp_mass L c wet)) (nI (L 1 c)) ∧ pg_fr [219, 220] M M') hR (rm_laysFacts hc hR hl hk) ?_ ?_ ?_)
  · rintro M1 ⟨hF, hf⟩ c1
    have hl1 := hl.keep hf (by simp) (by simp) (by simp)
    rw [tn_7] at c1 ⊢
    rcases hl1.2.2.2.2.2.2.2.2.2.2.2 with ⟨e1, e2⟩ | ⟨fr, e1, e2⟩
    · rw [show 6 + 1 = 7 from rfl] at e1; rw [e1] at c1; exact absurd c1 (by decide)
    · rw [show 6 + 1 = 7 from rfl] at e1
      rw [e1]
      exact pg_Ev.imp (fun r M' q => by obtain ⟨v, g1, g2, g3⟩ := q; exact ⟨v, g1, g2, (hf.mono (by simp)).trans (g3.mono (by simp))⟩) (rm_worthAt hR e2 hk.2.2.2.2.2.2.2.2.2 hF)
  · rintro M1 ⟨hF, hf⟩ c1 x2 M2 ⟨e1, e2⟩
    exact end37 M2 x2 e1 e2
  · rintro M1 ⟨hF, hf⟩ c1
    have hl1 := hl.keep hf (by simp) (by simp) (by simp)
    rw [tn_7] at c1
    rw [tn_0, hF.1]
    rcases hl1.2.2.2.2.2.2.2.2.2.2.2 with ⟨e1, e2⟩ | ⟨fr, e1, e2⟩
    · exact end37 M1 _ (by rw [e2, sp_def_1]) (hf.mono (by simp))
    · rw [show 6 + 1 = 7 from rfl] at e1; rw [e1] at c1; exact absurd (nI_pos' (by have := e2.1; omega)) c1
end PGR
