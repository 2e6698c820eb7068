/-! the reference: begun, done by hand -/
section PGR
variable {S : pg_S} {Λ : pg_L} {d b h : Nat} {M : pg_M} {L s : sp_N} {E : sp_E}
theorem rm_begins (hR : pg_isX11 Λ) (hl : rm_L M L E) (hk : sp_okL L E) : pg_Ev S Λ YX11_begins (d + 1) [.ref 207] M (fun r M' => r = none ∧ (rm_S M' 0 (sp_start L) ∧ M'.1 221 28 = 0 ∧ M'.1 218 0 = 0 ∧ M'.1 207 23 = 0 ∧ (∀ m, m < 4 → M'.1 222 m = 0) ∧ pg_fr [207, 218, 221, 222] M M' ∧ (∀ j, j ≠ 23 → M'.1 207 j = M.1 207 j))) := by
  refine oX11_begins (sX11_begins_0 (Q0 := fun M' => rm_S M' 0 (sp_start L) ∧ pg_fr [221] M M' ∧ ∀ j, (j < 0 ∨ 0 + 28 ≤ j) → M'.1 221 j = M.1 221 j) hR (rm_starts (b := 0) (by omega) hR hl hk) ?_)
  rintro M1 ⟨h1, h2, h3⟩
  have e28 : (28 : Int32).toNatClampNeg = 28 := rfl
  rw [e28, tn_0]
  refine pg_loop (fun i (m : pg_M) => pg_At S Λ YX11_begins (d + 1) 27 [(0, .ref 207), (1, .int (nI i))] [] m _) (fun i m => m.1 221 = (pg_si M1 221 28 0).1 221 ∧ m.1 218 0 = 0 ∧ m.1 207 = upd (M1.1 207) 23 0 ∧ (∀ k, k < i → m.1 222 k = 0) ∧ pg_fr [207, 218, 221, 222] M1 m ∧ m.2 = M1.2) 4 ?_ ?_ 0 _ (Nat.zero_le _) ?_
  · rintro m ⟨m1, m2, m3, m4, m5, m6⟩
    have h2' : pg_fr [207, 218, 221, 222] M M1 := h2.mono (fun x hx => by simp at hx ⊢; omega)
    refine sX11_begins_27 hR (fun _ => ⟨rfl, ?_, ?_, m2, ?_, m4, h2'.trans m5, fun j hj => ?_⟩) (fun c => absurd (show (4 : Int32) ≤ nI 4 by decide) c) (fun c => absurd (show (4 : Int32) ≤ nI 4 by decide) c)
    · exact h1.off (fun j a b => by rw [m1, pg_si_at, pk_un (by omega)])
    · rw [m1, pg_si_at, pk_us]
    · rw [m3, pk_us]
    · rw [m3, pk_un hj, h2.1 207 (by simp)]
  · rintro i m hi ⟨m1, m2, m3, m4, m5, m6⟩ ih
    have c9 : ¬ (4 : Int32) ≤ nI i := nI_ge (b := 4) hi (by decide)
    refine sX11_begins_27 hR (fun c => absurd c c9) (fun _ => vp_in_nI (by omega) (by decide)) (fun _ => ?_)
    rw [nI_1, nI_clamp (by omega), show vp_nar .boolean 0 = 0 from rfl]
    refine ih _ ⟨?_, ?_, ?_, fun k hk1 => ?_, m5.trans (pg_fr.si (by simp)), m6⟩
    · rw [pg_si_ne (by decide)]; exact m1
    · rw [pg_si_ne (by decide)]; exact m2
    · rw [pg_si_ne (by decide)]; exact m3
    · rw [pg_si_at]
      by_cases q : k = i
      · subst q; rw [pk_us]
      · rw [pk_un q]; exact m4 k (by omega)
  · refine ⟨?_, ?_, ?_, fun k hk1 => by omega, ?_, rfl⟩
    · rw [pg_si_ne (by decide), pg_si_ne (by decide)]
    · rw [pg_si_ne (by decide), pg_si_at, pk_us]
    · rw [pg_si_at, pg_si_ne (by decide), pg_si_ne (by decide)]
    · exact ((pg_fr.si (by simp)).trans (pg_fr.si (by simp))).trans (pg_fr.si (by simp))
theorem rm_firstFree {many : Nat} (hm : many ≤ 4) (hb : b + 28 ≤ 1242) (hR : pg_isX11 Λ) (hs : rm_S M b s) (hl : rm_L M L E) (hk : sp_okL L E) (ho : sp_okS L s h) : pg_Ev S Λ YX11_firstFree (d + 3) [.ref 207, .int (nI b), .int (nI many)] M (fun r M' => ∃ v, r = some (.int v) ∧ (v = nI (sp_gf (sp_free s) many 8).1 ∧ M' = M)) := by
  have hf8 := sp_free_lt ho
  refine oX11_firstFree (sX11_firstFree_0 (Q0 := fun v M' => v = nI (sp_free s) ∧ M' = M) hR (rm_freePegs hb hR hs hl hk ho) ?_)
  rintro x1 M1 ⟨rfl, rfl⟩
  refine pg_loop (fun i (q : Nat × Nat) => pg_At S Λ YX11_firstFree (d + 3) 15 [(2, .int (nI many)), (3, .int (nI (sp_free s))), (4, .int (nI q.1)), (5, .int (nI q.2)), (6, .int (nI i))] [] M1 _) (fun i q => q = sp_gf (sp_free s) many i) 8 ?_ ?_ 0 (0, 0) (Nat.zero_le _) rfl
  · rintro q rfl
    exact sX11_firstFree_15 (fun _ => ⟨_, rfl, rfl, rfl⟩) (fun c => absurd (show (8 : Int32) ≤ nI 8 by decide) c) (fun c => absurd (show (8 : Int32) ≤ nI 8 by decide) c) (fun c => absurd (show (8 : Int32) ≤ nI 8 by decide) c)
  · rintro i q hi rfl ih
    have c9 : ¬ (8 : Int32) ≤ nI i := nI_ge (b := 8) hi (by decide)
    obtain ⟨g1, g2⟩ := sp_gf_lt (sp_free s) many i
    refine sX11_firstFree_15 (fun c => absurd c c9) (fun _ c2 => ?_) (fun _ c2 c3 => ?_) (fun _ c2 c3 => ?_)
    · refine sX11_firstFree_43 (fun _ _ => ?_) (fun a b => absurd a b) (fun a b => absurd b a) (fun a b => absurd rfl a)
      rw [nI_leI (by omega) (by omega)] at c2
      rw [show (0 : Int32) = nI 0 from rfl, fa_or, nI_add, nI_1, Nat.or_zero, Nat.add_zero]
      refine ih (_, _) ?_
      simp only [sp_gf]
      rw [if_neg (by omega)]
    · refine sX11_firstFree_43 (fun _ _ => ?_) (fun a b => absurd a b) (fun a b => absurd b a) (fun a b => absurd rfl a)
      rw [nb_bit' (by omega) (by omega)] at c3
      rw [show (0 : Int32) = nI 0 from rfl, fa_or, nI_add, nI_1, Nat.or_zero, Nat.add_zero]
      refine ih (_, _) ?_
      simp only [sp_gf]
      rw [if_neg (fun q => c3 q.2)]
    · refine sX11_firstFree_43 (fun a => absurd a (by decide)) (fun a => absurd a (by decide)) (fun a b => absurd b a) (fun _ _ => ?_)
      rw [nI_leI (by omega) (by omega)] at c2
      rw [nb_bit' (by omega) (by omega)] at c3
      rw [nb_set (by omega), nI_1, nI_1]
      refine ih (_, _) ?_
      simp only [sp_gf]
      rw [if_pos ⟨by omega, c3⟩]
theorem rm_washes {c : Nat} (hc : c < 6) (hb : b + 28 ≤ 1242) (hR : pg_isX11 Λ) (hs : rm_S M b s) : pg_Ev S Λ YX11_washes d [.ref 207, .int (nI b), .int (nI c)] M (fun r M' => ∃ v, r = some (.int v) ∧ (v = nI (s 1 c) ∧ rm_S M' b (sp_up (sp_up s 1 c 0) 0 c 9) ∧ rm_fr b M M')) := by
  have e8 : nI b + (8 : Int32) + nI c = nI (b + 8 + c) := rm_at (k := 8)
  have e2 : nI b + (2 : Int32) + nI c = nI (b + 2 + c) := rm_at (k := 2)
  refine oX11_washes (sX11_washes_0 hR (by rw [e8]; exact vp_in_nI (by omega) (by decide)) (by rw [e2]; exact vp_in_nI (by omega) (by decide)) ⟨_, rfl, ?_, ?_, ?_⟩) <;> rw [e8, nI_clamp (by omega)]
  · exact (hs.2.2.1 c hc).2.1
  · rw [e2, nI_clamp (by omega)]
    exact (rm_S.w1 (v := 0) hc hs).w0 (v := 9) hc
  · rw [e2, nI_clamp (by omega)]
    exact (rm_fr.set (by omega) (by omega)).trans (rm_fr.set (by omega) (by omega))
theorem rm_buys {g : Nat} (hb : b + 28 ≤ 1242) (hR : pg_isX11 Λ) (hs : rm_S M b s) (ho : sp_okS L s h) (h8 : s 4 0 < 8) : pg_Ev S Λ YX11_buys d [.ref 207, .int (nI b), .int (nI g)] M (fun r M' => ∃ v, r = some (.int v) ∧ (v = nI (s 4 0) ∧ rm_S M' b (sp_up (sp_up s 3 (s 4 0) g) 4 0 (s 4 0 + 1)) ∧ rm_fr b M M')) := by
  have e1 : M.1 221 (nI b + 1).toNatClampNeg = nI (s 4 0) := by rw [nI_1, nI_clamp (by omega)]; exact hs.2.1
  have e2 : nI b + (20 : Int32) + nI (s 4 0) = nI (b + 20 + s 4 0) := rm_at (k := 20)
  refine oX11_buys (sX11_buys_0 hR (by rw [nI_1]; exact vp_in_nI (by omega) (by decide)) (by rw [e1, e2]; exact vp_in_nI (by omega) (by decide)) (fun N1 hN => ⟨_, rfl, e1, ?_, ?_⟩))
  all_goals
    rw [e1, e2, nI_1, nI_clamp (by omega), nI_clamp (by omega), pg_si_at, pk_un (by omega), hs.2.1, nI_1] at hN
    subst hN
  · obtain ⟨s1, s2, s3, s4⟩ := hs
    refine ⟨?_, ?_, fun e he => ⟨?_, ?_, ?_⟩, fun p hp => ?_⟩ <;> rw [pg_si_at]
    · rw [pk_un (by omega), pg_si_at, pk_un (by omega)]; simpa [sp_up] using s1
    · rw [pk_us]; simp [sp_up]
    · rw [pk_un (by omega), pg_si_at, pk_un (by omega)]; simpa [sp_up] using (s3 e he).1
    · rw [pk_un (by omega), pg_si_at, pk_un (by omega)]; simpa [sp_up] using (s3 e he).2.1
    · rw [pk_un (by omega), pg_si_at, pk_un (by omega)]; simpa [sp_up] using (s3 e he).2.2
    · rw [pk_un (by omega), pg_si_at]
      by_cases q : p = s 4 0
      · subst q; rw [pk_us]; simp [sp_up]
      · rw [pk_un (by omega)]; simpa [sp_up, q] using s4 p hp
  · exact (rm_fr.set (by omega) (by omega)).trans (rm_fr.set (by omega) (by omega))
theorem rm_does {what a set : Nat} (h4 : what < 4) (h0 : what = 0 → 0 < set ∧ set < 256) (h3 : what < 3 → a < L 4 0) (h9 : what = 3 → 1 ≤ a ∧ a ≤ 9) (hR : pg_isX11 Λ) (hs : rm_S M 1134 s) (hl : rm_L M L E) (hk : sp_okL L E) (ho : sp_okS L s h) : pg_Ev S Λ YX11_does (d + 4) [.ref 207, .int (nI what), .int (nI a), .int (nI set)] M (fun r M' => ∃ v, r = some (.int v) ∧ (v = b2i (sp_does L s what a set).isSome ∧ rm_S M' 1134 ((sp_does L s what a set).getD s) ∧ rm_fr 1134 M M')) := by
  have h6 := hk.1
  have hE : (1134 : Int32) = nI 1134 := rfl
  have e14 : (1148 : Int32) + nI a = nI (1134 + 14 + a) := by rw [show (1148 : Int32) = nI 1148 from rfl, nI_add]
  have w0 : ∀ {y : Nat} {z : Int32}, y < 2 ^ 31 → z = nI y → (nI what = z ↔ what = y) := fun hy e => by rw [e, nI_eq (by omega) hy]
  have w1 := w0 (y := 0) (z := 0) (by decide) rfl
  have w2 := w0 (y := 1) (z := 1) (by decide) rfl
  have w3 := w0 (y := 2) (z := 2) (by decide) rfl
  have w4 : (2 : Int32) ≤ nI what ↔ 2 ≤ what := by rw [show (2 : Int32) = nI 2 from rfl, nI_leI (by omega) (by omega)]
  have hout : ∀ (o : Option sp_N), sp_does L s what a set = o → pg_At S Λ YX11_does (d + 4) 74 [(0, .ref 207), (1, .int (nI what)), (2, .int (nI a)), (3, .int (nI set))] [.int (b2i o.isSome)] M (fun r M' => ∃ v, r = some (.int v) ∧ (v = b2i o.isSome ∧ rm_S M' 1134 (o.getD s) ∧ rm_fr 1134 M M')) := by
    intro o ho1
    cases o with
    | none =>
      have z : b2i (none : Option sp_N).isSome = 0 := rfl
      rw [z]
      refine sX11_does_74 (Q0 := fun _ _ => True) (Q1 := fun _ _ => True) (Q2 := fun _ _ => True) (Q3 := fun _ _ => True) (Q4 := fun _ _ => True) (Q5 := fun _ _ => True) hR (fun _ _ _ => ⟨_, rfl, rfl, hs, rm_fr.rfl'⟩) (fun _ _ _ => rfl) ?_ ?_ ?_ ?_ ?_ ?_ ?_ ?_ ?_ ?_ ?_ ?_ ?_ ?_ ?_ ?_ ?_ ?_ ?_ ?_ ?_ ?_ ?_ ?_ ?_ ?_ ?_ ?_ ?_ ?_
      all_goals first
        | exact fun a => absurd rfl a
        | exact fun _ a => absurd rfl a
        | exact fun _ _ a => absurd rfl a
    | some t =>
      have z : b2i (some t : Option sp_N).isSome = 1 := rfl
      have n1 : ¬ (1 : Int32) = 0 := by decide
      rw [z]
      refine sX11_does_74 (Q0 := fun _ _ => True) (Q1 := fun _ _ => True) (Q2 := fun _ _ => True) (Q3 := fun _ _ => True) (Q4 := fun v M' => v = nI (s 4 0) ∧ rm_S M' 1134 t ∧ rm_fr 1134 M M') (Q5 := fun v M' => v = nI (s 1 a) ∧ rm_S M' 1134 t ∧ rm_fr 1134 M M') hR (fun c => absurd c n1) (fun c => absurd c n1) (fun c => absurd c n1) (fun c => absurd c n1) (fun c => absurd c n1) (fun c => absurd c n1) (fun c => absurd c n1) (fun c => absurd c n1) (fun c => absurd c n1) (fun c => absurd c n1) (fun c => absurd c n1) (fun c => absurd c n1) (fun c => absurd c n1) (fun _ _ c => absurd c n1) (fun _ _ c => absurd c n1) (fun _ _ c => absurd c n1) (fun _ _ c => absurd c n1) (fun _ _ c => absurd c n1) (fun _ _ _ _ c => absurd c n1) (fun _ _ _ _ c => absurd c n1) ?_ ?_ (fun _ _ _ _ _ _ _ _ => rfl) ?_ ?_ (fun _ _ _ _ _ _ _ => rfl) ?_ ?_ (fun _ _ _ => rfl) ?_ ?_ (fun _ _ _ => rfl)
      · intro _ c1 _ c2 _
        rw [w4] at c1; rw [w3] at c2
        have hw : what = 3 := by omega
        subst hw
        obtain ⟨g1, g2⟩ := h9 rfl
        unfold sp_does sp_buy at ho1
        rw [sp_ix_nI (by decide) (show a < 10 by omega)] at ho1
        simp only [Nat.reduceEqDiff, if_false, Option.bind_some] at ho1
        split at ho1
        · rename_i g3
          cases ho1
          exact rm_buys (b := 1134) (by omega) hR hs ho g3.2
        · cases ho1
      · rintro _ _ _ _ _ x5 M5 ⟨_, q2, q3⟩; exact ⟨_, rfl, rfl, q2, q3⟩
      · intro _ c1 _ c2
        rw [w3] at c2
        subst c2
        have ha := h3 (by omega)
        unfold sp_does sp_wash at ho1
        rw [sp_ix_nI (by omega) ha] at ho1
        simp only [Nat.reduceEqDiff, if_false, if_true, Option.bind_some] at ho1
        split at ho1
        · cases ho1
          exact rm_washes (b := 1134) (by omega) (by omega) hR hs
        · cases ho1
      · rintro _ _ _ _ x5 M5 ⟨_, q2, q3⟩; exact ⟨_, rfl, rfl, q2, q3⟩
      · intro _ c1 c2
        rw [w4] at c1; have ha := h3 (by omega)
        rw [e14]; exact vp_in_nI (by omega) (by decide)
      · intro _ c1 c2
        rw [w4] at c1; have ha := h3 (by omega)
        rw [w1] at c2
        have hw : what = 1 := by omega
        subst hw
        rw [e14, nI_clamp (by omega)]
        unfold sp_does sp_take at ho1
        rw [sp_ix_nI (by omega) ha] at ho1
        simp only [Nat.reduceEqDiff, if_false, if_true, Option.bind_some] at ho1
        split at ho1
        · cases ho1
        · cases ho1
          exact ⟨_, rfl, rfl, rm_S.w2 (v := 0) (by omega) hs, rm_fr.set (by omega) (by omega)⟩
      · intro _ c1 c2
        rw [w4] at c1; have ha := h3 (by omega)
        rw [e14]; exact vp_in_nI (by omega) (by decide)
      · intro _ c1 c2
        rw [w1] at c2
        subst c2
        have ha := h3 (by omega)
        rw [e14, nI_clamp (by omega)]
        unfold sp_does sp_hang at ho1
        rw [sp_ix_nI (by omega) ha, sp_ix_nI (by decide) (h0 rfl).2] at ho1
        simp only [if_true, Option.bind_some] at ho1
        split at ho1
        · cases ho1
          exact ⟨_, rfl, rfl, rm_S.w2 (by omega) hs, rm_fr.set (by omega) (by omega)⟩
        · cases ho1
  refine oX11_does (sX11_does_0 (Q0 := fun v M' => v = b2i (decide (¬ s 2 a = 0)) ∧ M' = M) (Q1 := fun v M' => v = b2i (decide (¬ s 2 a = 0)) ∧ M' = M) (Q2 := fun v M' => v = b2i (sp_may L s a set) ∧ M' = M) hR ?_ ?_ ?_ ?_ ?_ ?_ ?_ ?_ ?_)
  · intro c1 c2 c3 c4
    rw [w1] at c1; rw [w2] at c2; rw [w3] at c3
    have hw : what = 3 := by omega
    subst hw
    have h8 := ho.1
    obtain ⟨g1, g2⟩ := h9 rfl
    rw [show (1135 : Int32).toNatClampNeg = 1135 from rfl, hs.2.1, show (8 : Int32) = nI 8 from rfl, nI_leI (by omega) (by omega)] at c4
    have e : sp_does L s 3 a set = none := by
      unfold sp_does sp_buy
      rw [sp_ix_nI (by decide) (show a < 10 by omega)]
      simp only [Nat.reduceEqDiff, if_false, Option.bind_some]
      rw [if_neg (by omega)]
    have := hout _ e
    rw [e]
    exact this
  · intro c1 c2 c3 c4
    rw [w1] at c1; rw [w2] at c2; rw [w3] at c3
    have hw : what = 3 := by omega
    subst hw
    have h8 := ho.1
    obtain ⟨g1, g2⟩ := h9 rfl
    rw [show (1135 : Int32).toNatClampNeg = 1135 from rfl, hs.2.1, show (8 : Int32) = nI 8 from rfl, nI_leI (by omega) (by omega)] at c4
    have e : sp_does L s 3 a set = some (sp_up (sp_up s 3 (s 4 0) a) 4 0 (s 4 0 + 1)) := by
      unfold sp_does sp_buy
      rw [sp_ix_nI (by decide) (show a < 10 by omega)]
      simp only [Nat.reduceEqDiff, if_false, Option.bind_some]
      rw [if_pos (by omega)]
    have := hout _ e
    rw [e]
    exact this
  · intro c1 c2 c3
    rw [w3] at c3
    have ha := h3 (by omega)
    exact rm_isHung (b := 1134) (by omega) (by omega) hR hs ho
  · rintro c1 c2 c3 x1 M1 ⟨rfl, rfl⟩ c4
    rw [w3] at c3
    subst c3
    have ha := h3 (by omega)
    rw [b2i_0, decide_eq_false_iff_not, Classical.not_not] at c4
    have e : sp_does L s 2 a set = none := by
      unfold sp_does sp_wash
      rw [sp_ix_nI (by omega) ha]
      simp [c4]
    have := hout _ e
    rw [e]
    exact this
  · rintro c1 c2 c3 x1 M1 ⟨rfl, rfl⟩ c4
    rw [w3] at c3
    subst c3
    have ha := h3 (by omega)
    rw [b2i_0, decide_eq_false_iff_not, Classical.not_not] at c4
    have e : sp_does L s 2 a set = some (sp_up (sp_up s 1 a 0) 0 a 9) := by
      unfold sp_does sp_wash
      rw [sp_ix_nI (by omega) ha]
      simp [c4]
    have := hout _ e
    rw [e]
    exact this
  · intro c1 c2
    rw [w2] at c2
    have ha := h3 (by omega)
    exact rm_isHung (b := 1134) (by omega) (by omega) hR hs ho
  · rintro c1 c2 x1 M1 ⟨rfl, rfl⟩
    rw [w2] at c2
    subst c2
    have ha := h3 (by omega)
    have e : sp_does L s 1 a set = if s 2 a = 0 then none else some (sp_up s 2 a 0) := by
      unfold sp_does sp_take
      rw [sp_ix_nI (by omega) ha]
      simp
    have := hout _ e
    rw [e]
    by_cases q : s 2 a = 0
    · simp only [q, if_true] at this ⊢; exact this
    · simp only [q, if_false] at this ⊢; exact this
  · intro c1
    rw [w1] at c1
    have ha := h3 (by omega)
    obtain ⟨g1, g2⟩ := h0 c1
    exact rm_mayHang (b := 1134) ha g2 g1 (by omega) hR hs hl hk ho
  · rintro c1 x1 M1 ⟨rfl, rfl⟩
    rw [w1] at c1
    subst c1
    have ha := h3 (by omega)
    obtain ⟨g1, g2⟩ := h0 rfl
    have e : sp_does L s 0 a set = if sp_may L s a set then some (sp_up s 2 a set) else none := by
      unfold sp_does sp_hang
      rw [sp_ix_nI (by omega) ha, sp_ix_nI (by decide) g2]
      simp
    have := hout _ e
    rw [e]
    cases q : sp_may L s a set with
    | true => simp only [q, if_true] at this ⊢; exact this
    | false => rw [q] at this; exact this
end PGR
