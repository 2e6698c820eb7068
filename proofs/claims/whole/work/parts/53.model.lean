/-! the reference: an hour, sets, what may hang, copies -/
section PGR
variable {S : pg_S} {Λ : pg_L} {d b h : Nat} {M : pg_M} {L s : sp_N} {E : sp_E}
theorem rm_passes (g : Bool) (hh31 : h < 2 ^ 30) (hb : b + 28 ≤ 1242) (hR : pg_isX11 Λ) (hs : rm_S M b s) (hl : rm_L M L E) (hk : sp_okL L E) (ho : sp_okS L s h) : pg_Ev S Λ YX11_passes (d + 4) [.ref 207, .int (nI b), .int (b2i g)] M (fun r M' => ∃ v, r = some (.int v) ∧ (v = nI (sp_hour L E s (if g then 3 else 0)).2 ∧ rm_S M' b (sp_hour L E s (if g then 3 else 0)).1 ∧ rm_fr b M M')) := by
  have hc6 := hk.1
  have hho := ho.2.1
  have e0 : (nI b + (0 : Int32)).toNatClampNeg = b := by rw [Int32.add_zero, nI_clamp (by omega)]
  refine oX11_passes (sX11_passes_0 (Q0 := fun v M' => v = nI (sp_wind L (s 4 1) + if g then 3 else 0) ∧ M' = M) hR (by rw [Int32.add_zero]; exact vp_in_nI (by omega) (by decide)) (by rw [e0, hs.1]; exact rm_windOf g (by omega) hR hl hk) ?_)
  rintro x1 M1 ⟨rfl, rfl⟩
  generalize hw : sp_wind L (s 4 1) + (if g then 3 else 0) = w
  refine pg_loop (fun i (q : Int32 × pg_M) => pg_At S Λ YX11_passes (d + 4) 20 [(0, .ref 207), (1, .int (nI b)), (3, .int (nI w)), (4, .int q.1), (5, .int (nI i))] [] q.2 _) (fun i q => q.1 = nI (sp_hits L E s w i).2 ∧ rm_S q.2 b (sp_hits L E s w i).1 ∧ rm_fr b M1 q.2) (L 4 0) ?_ ?_ 0 (0, M1) (Nat.zero_le _) ⟨rfl, hs, rm_fr.rfl'⟩
  · rintro ⟨n, M2⟩ ⟨hn, hs2, hf2⟩
    simp only at hn hs2 hf2 ⊢
    have hl2 := hl.fr hf2
    have c9 : nI (L 4 0) ≤ nI (L 4 0) := nI_le (Nat.le_refl _) (by omega)
    have ho2 : sp_okS L (sp_hits L E s w (L 4 0)).1 h := ho.hits _ (Nat.le_refl _)
    refine sX11_passes_20 (Q0 := fun v M' => v = nI (L 4 0) ∧ M' = M2) (Q1 := fun _ _ => True) (Q2 := fun _ _ => True) hR (rm_cloths hR hl2) ?_ ?_ ?_ ?_ ?_ ?_
    · rintro x3 M3 ⟨rfl, rfl⟩ _
      refine pg_loop (fun i (M4 : pg_M) => pg_At S Λ YX11_passes (d + 4) 69 [(0, .ref 207), (1, .int (nI b)), (3, .int (nI w)), (4, .int n), (5, .int (nI i))] [] M4 _) (fun i M4 => rm_S M4 b (sp_dries L E (sp_hits L E s w (L 4 0)).1 w i) ∧ rm_fr b M1 M4) (L 4 0) ?_ ?_ 0 M3 (Nat.zero_le _) ⟨hs2, hf2⟩
      · rintro M4 ⟨hs4, hf4⟩
        have hl4 := hl.fr hf4
        refine sX11_passes_69 (Q0 := fun v M' => v = nI (L 4 0) ∧ M' = M4) (Q1 := fun _ _ => True) (Q2 := fun _ _ => True) hR (rm_cloths hR hl4) ?_ ?_ ?_ ?_ ?_ ?_ ?_
        · rintro x5 M5 ⟨rfl, rfl⟩ _; rw [Int32.add_zero]; exact vp_in_nI (by omega) (by decide)
        · rintro x5 M5 ⟨rfl, rfl⟩ _
          rw [e0]
          have e1 : (sp_dries L E (sp_hits L E s w (L 4 0)).1 w (L 4 0)) 4 1 = s 4 1 := by rw [sp_dries_4, sp_hits_4]
          refine ⟨_, rfl, ?_, ?_, hf4.trans (rm_fr.set (by omega) (by omega))⟩
          · rw [hn]; unfold sp_hour; rw [hw]
          · rw [hs4.1, e1, nI_1]
            unfold sp_hour
            rw [hw]
            exact hs4.wh
        all_goals (rintro x5 M5 ⟨rfl, rfl⟩ c; exact absurd c9 c)
      · rintro i M4 hi ⟨hs4, hf4⟩ ih
        have hl4 := hl.fr hf4
        have ho4 : sp_okS L (sp_dries L E (sp_hits L E s w (L 4 0)).1 w i) h := ho2.dries i (by omega)
        have c9 : ¬ nI (L 4 0) ≤ nI i := nI_ge hi (by omega)
        have e2 : nI b + (2 : Int32) + nI i = nI (b + 2 + i) := rm_at (k := 2)
        have c2 : (nI b + (2 : Int32) + nI i).toNatClampNeg = b + 2 + i := by rw [e2, nI_clamp (by omega)]
        refine sX11_passes_69 (Q0 := fun v M' => v = nI (L 4 0) ∧ M' = M4) (Q1 := fun v M' => v = b2i (decide (¬ sp_dries L E (sp_hits L E s w (L 4 0)).1 w i 2 i = 0)) ∧ M' = M4) (Q2 := fun v M' => v = nI (sp_dry L E i (sp_dries L E (sp_hits L E s w (L 4 0)).1 w i 0 i) w) ∧ pg_fr [219, 220] M4 M') hR (rm_cloths hR hl4) ?_ ?_ ?_ ?_ ?_ ?_ ?_
        · rintro x5 M5 ⟨rfl, rfl⟩ c; exact absurd c c9
        · rintro x5 M5 ⟨rfl, rfl⟩ c; exact absurd c c9
        · rintro x5 M5 ⟨rfl, rfl⟩ _; exact rm_isHung (by omega) hb hR hs4 ho4
        · rintro x5 M5 ⟨rfl, rfl⟩ _ x6 M6 ⟨rfl, rfl⟩ q
          rw [b2i_0, decide_eq_false_iff_not, Classical.not_not] at q
          rw [nI_1]
          refine ih _ ⟨?_, hf4⟩
          simp only [sp_dries, if_pos q]
          exact hs4
        · rintro x5 M5 ⟨rfl, rfl⟩ _ x6 M6 ⟨rfl, rfl⟩ q; rw [e2]; exact vp_in_nI (by omega) (by decide)
        · rintro x5 M5 ⟨rfl, rfl⟩ _ x6 M6 ⟨rfl, rfl⟩ q
          rw [c2, (hs4.2.2.1 i (by omega)).1]
          exact rm_driedOf hi (by have := (ho4.2.2.1 i).1; omega) hR hl4 hk
        · rintro x5 M5 ⟨rfl, rfl⟩ _ x6 M6 ⟨rfl, rfl⟩ q x7 M7 ⟨rfl, hf7⟩
          rw [b2i_0, decide_eq_false_iff_not, Classical.not_not] at q
          rw [nI_1, c2]
          refine ih _ ⟨?_, (hf4.trans (rm_fr.of hf7)).trans (rm_fr.set (by omega) (by omega))⟩
          simp only [sp_dries, if_neg q]
          exact (hs4.fr hf7).w0 (by omega)
    all_goals (rintro x3 M3 ⟨rfl, rfl⟩ c; exact absurd c9 c)
  · rintro i ⟨n, M2⟩ hi ⟨hn, hs2, hf2⟩ ih
    simp only at hn hs2 hf2 ⊢
    have hl2 := hl.fr hf2
    have ho2 : sp_okS L (sp_hits L E s w i).1 h := ho.hits i (by omega)
    have c9 : ¬ nI (L 4 0) ≤ nI i := nI_ge hi (by omega)
    refine sX11_passes_20 (Q0 := fun v M' => v = nI (L 4 0) ∧ M' = M2) (Q1 := fun v M' => v = b2i (decide (¬ (sp_hits L E s w i).1 2 i = 0)) ∧ M' = M2) (Q2 := fun v M' => v = b2i (sp_hit L E (sp_hits L E s w i).1 i w).2 ∧ rm_S M' b (sp_hit L E (sp_hits L E s w i).1 i w).1 ∧ rm_fr b M2 M') hR (rm_cloths hR hl2) ?_ ?_ ?_ ?_ ?_ ?_
    · rintro x3 M3 ⟨rfl, rfl⟩ c; exact absurd c c9
    · rintro x3 M3 ⟨rfl, rfl⟩ _; exact rm_isHung (by omega) hb hR hs2 ho2
    · rintro x3 M3 ⟨rfl, rfl⟩ _ x4 M4 ⟨rfl, rfl⟩ q
      rw [b2i_0, decide_eq_false_iff_not, Classical.not_not] at q
      rw [nI_1]
      refine ih (n, M4) ⟨?_, ?_, hf2⟩
      · simp only [sp_hits, if_pos q]; exact hn
      · simp only [sp_hits, if_pos q]; exact hs2
    · rintro x3 M3 ⟨rfl, rfl⟩ _ x4 M4 ⟨rfl, rfl⟩ q
      exact rm_pulls hi hb hR hs2 hl2 hk ho2
    · rintro x3 M3 ⟨rfl, rfl⟩ _ x4 M4 ⟨rfl, rfl⟩ q x5 M5 ⟨rfl, hs5, hf5⟩ c2
      rw [b2i_0, decide_eq_false_iff_not, Classical.not_not] at q
      rw [nI_1, Int32.add_zero]
      refine ih (n, M5) ⟨?_, ?_, hf2.trans hf5⟩
      · simp only [sp_hits, if_neg q, b2i_0.mp c2]; rw [hn]; rfl
      · simp only [sp_hits, if_neg q]; exact hs5
    · rintro x3 M3 ⟨rfl, rfl⟩ _ x4 M4 ⟨rfl, rfl⟩ q x5 M5 ⟨rfl, hs5, hf5⟩ c2
      rw [b2i_0, decide_eq_false_iff_not, Classical.not_not] at q
      rw [nI_1]
      refine ih (n + 1, M5) ⟨?_, ?_, hf2.trans hf5⟩
      · simp only [sp_hits, if_neg q, ts_nf (fun q => c2 (b2i_0.mpr q)), if_true]; rw [hn, nI_1]
      · simp only [sp_hits, if_neg q]; exact hs5
theorem rm_lawsOf (hb : b + 28 ≤ 1242) (hR : pg_isX11 Λ) (hs : rm_S M b s) (hl : rm_L M L E) (hk : sp_okL L E) (ho : sp_okS L s h) : pg_Ev S Λ YX11_lawsOf (d + 3) [.ref 207, .int (nI b)] M (fun r M' => ∃ v, r = some (.int v) ∧ (v = nI (sp_laws L s) ∧ M' = M)) := by
  have hc6 := hk.1
  refine oX11_lawsOf (sX11_lawsOf_0 ?_)
  refine pg_loop (fun i (v : Int32) => pg_At S Λ YX11_lawsOf (d + 3) 4 [(0, .ref 207), (1, .int (nI b)), (2, .int v), (3, .int (nI i))] [] M _) (fun i v => v = nI (sp_mk (sp_law L s) i)) (L 4 0) ?_ ?_ 0 0 (Nat.zero_le _) rfl
  · rintro v rfl
    have c9 : nI (L 4 0) ≤ nI (L 4 0) := nI_le (Nat.le_refl _) (by omega)
    refine sX11_lawsOf_4 (Q0 := fun v M' => v = nI (L 4 0) ∧ M' = M) (Q1 := fun _ _ => True) hR (rm_cloths hR hl) ?_ ?_ ?_ ?_
    · rintro x1 M1 ⟨rfl, rfl⟩ _; exact ⟨_, rfl, rfl, rfl⟩
    all_goals (rintro x1 M1 ⟨rfl, rfl⟩ c; exact absurd c9 c)
  · rintro i v hi rfl ih
    have c9 : ¬ nI (L 4 0) ≤ nI i := nI_ge hi (by omega)
    refine sX11_lawsOf_4 (Q0 := fun v M' => v = nI (L 4 0) ∧ M' = M) (Q1 := fun v M' => v = b2i (sp_law L s i) ∧ M' = M) hR (rm_cloths hR hl) ?_ ?_ ?_ ?_
    · rintro x1 M1 ⟨rfl, rfl⟩ c; exact absurd c c9
    · rintro x1 M1 ⟨rfl, rfl⟩ _; exact rm_isLaw hi hb hR hs hl hk ho
    · rintro x1 M1 ⟨rfl, rfl⟩ _ x2 M2 ⟨rfl, rfl⟩ c
      rw [nI_1, Int32.or_zero]
      exact ih _ (by simp [sp_mk, b2i_0.mp c])
    · rintro x1 M1 ⟨rfl, rfl⟩ _ x2 M2 ⟨rfl, rfl⟩ c
      rw [nI_1, nb_set (by omega)]
      exact ih _ (by simp [sp_mk, ts_nf (fun q => c (b2i_0.mpr q))])
theorem rm_turnedSet (hR : pg_isX11 Λ) (hs : rm_S M 0 s) (hl : rm_L M L E) (hk : sp_okL L E) (ho : sp_okS L s h) : pg_Ev S Λ YX11_turnedSet (d + 2) [.ref 207] M (fun r M' => ∃ v, r = some (.int v) ∧ (v = nI (sp_turns L s) ∧ M' = M)) := by
  have hc6 := hk.1
  refine oX11_turnedSet (sX11_turnedSet_0 ?_)
  refine pg_loop (fun i (v : Int32) => pg_At S Λ YX11_turnedSet (d + 2) 4 [(0, .ref 207), (1, .int v), (2, .int (nI i))] [] M _) (fun i v => v = nI (sp_mk (sp_turn s) i)) (L 4 0) ?_ ?_ 0 0 (Nat.zero_le _) rfl
  · rintro v rfl
    have c9 : nI (L 4 0) ≤ nI (L 4 0) := nI_le (Nat.le_refl _) (by omega)
    refine sX11_turnedSet_4 (Q0 := fun v M' => v = nI (L 4 0) ∧ M' = M) (Q1 := fun _ _ => True) hR (rm_cloths hR hl) ?_ ?_ ?_ ?_
    · rintro x1 M1 ⟨rfl, rfl⟩ _; exact ⟨_, rfl, rfl, rfl⟩
    all_goals (rintro x1 M1 ⟨rfl, rfl⟩ c; exact absurd c9 c)
  · rintro i v hi rfl ih
    have c9 : ¬ nI (L 4 0) ≤ nI i := nI_ge hi (by omega)
    refine sX11_turnedSet_4 (Q0 := fun v M' => v = nI (L 4 0) ∧ M' = M) (Q1 := fun v M' => v = b2i (sp_turn s i) ∧ M' = M) hR (rm_cloths hR hl) ?_ ?_ ?_ ?_
    · rintro x1 M1 ⟨rfl, rfl⟩ c; exact absurd c c9
    · rintro x1 M1 ⟨rfl, rfl⟩ _; exact rm_isTurned (b := 0) (by omega) (by omega) hR hs ho
    · rintro x1 M1 ⟨rfl, rfl⟩ _ x2 M2 ⟨rfl, rfl⟩ c
      rw [nI_1, Int32.or_zero]
      exact ih _ (by simp [sp_mk, b2i_0.mp c])
    · rintro x1 M1 ⟨rfl, rfl⟩ _ x2 M2 ⟨rfl, rfl⟩ c
      rw [nI_1, nb_set (by omega)]
      exact ih _ (by simp [sp_mk, ts_nf (fun q => c (b2i_0.mpr q))])
theorem rm_worthOf {set : Nat} (hset : set < 2 ^ 31) (hR : pg_isX11 Λ) (hl : rm_L M L E) (hk : sp_okL L E) : pg_Ev S Λ YX11_worthOf (d + 1) [.ref 207, .int (nI set)] M (fun r M' => ∃ v, r = some (.int v) ∧ (v = nI (sp_worth L set) ∧ M' = M)) := by
  have hc6 := hk.1
  refine oX11_worthOf (sX11_worthOf_0 ?_)
  refine pg_loop (fun i (v : Int32) => pg_At S Λ YX11_worthOf (d + 1) 4 [(0, .ref 207), (1, .int (nI set)), (2, .int v), (3, .int (nI i))] [] M _) (fun i v => v = nI (fb_sm (fun c => if set.testBit c then L 3 c else 0) i)) (L 4 0) ?_ ?_ 0 0 (Nat.zero_le _) rfl
  · rintro v rfl
    have c9 : nI (L 4 0) ≤ nI (L 4 0) := nI_le (Nat.le_refl _) (by omega)
    refine sX11_worthOf_4 (Q0 := fun v M' => v = nI (L 4 0) ∧ M' = M) (Q1 := fun _ _ => True) hR (rm_cloths hR hl) ?_ ?_ ?_ ?_
    · rintro x1 M1 ⟨rfl, rfl⟩ _; exact ⟨_, rfl, rfl, rfl⟩
    all_goals (rintro x1 M1 ⟨rfl, rfl⟩ c; exact absurd c9 c)
  · rintro i v hi rfl ih
    have c9 : ¬ nI (L 4 0) ≤ nI i := nI_ge hi (by omega)
    refine sX11_worthOf_4 (Q0 := fun v M' => v = nI (L 4 0) ∧ M' = M) (Q1 := fun v M' => v = nI (L 3 i) ∧ M' = M) hR (rm_cloths hR hl) ?_ ?_ ?_ ?_
    · rintro x1 M1 ⟨rfl, rfl⟩ c; exact absurd c c9
    · rintro x1 M1 ⟨rfl, rfl⟩ _ c
      rw [nb_bit' hset (by omega)] at c
      rw [nI_1, Int32.add_zero]
      exact ih _ (by simp [fb_sm_succ, ts_nt c])
    · rintro x1 M1 ⟨rfl, rfl⟩ _ c; exact rm_clothOf (k := 3) hi (by decide) hR hl hk
    · rintro x1 M1 ⟨rfl, rfl⟩ _ c x2 M2 ⟨rfl, rfl⟩
      rw [nb_bit' hset (by omega)] at c
      rw [nI_1, nI_add]
      exact ih _ (by simp [fb_sm_succ, c])
theorem rm_heldBy {p : Nat} (hp : p < 8) (hb : b + 28 ≤ 1242) (hR : pg_isX11 Λ) (hs : rm_S M b s) (hl : rm_L M L E) (hk : sp_okL L E) (ho : sp_okS L s h) : pg_Ev S Λ YX11_heldBy (d + 1) [.ref 207, .int (nI b), .int (nI p)] M (fun r M' => ∃ v, r = some (.int v) ∧ (((∃ c, c < 6 ∧ (s 2 c).testBit p = true ∧ v = nI c) ∨ ((∀ c, c < 6 → (s 2 c).testBit p = false) ∧ v = -1)) ∧ M' = M)) := by
  have hc6 := hk.1
  refine oX11_heldBy (sX11_heldBy_0 ?_)
  refine pg_loop (fun i (v : Int32) => pg_At S Λ YX11_heldBy (d + 1) 5 [(0, .ref 207), (1, .int (nI b)), (2, .int (nI p)), (3, .int v), (4, .int (nI i))] [] M _) (fun i v => (∃ c, c < i ∧ (s 2 c).testBit p = true ∧ v = nI c) ∨ ((∀ c, c < i → (s 2 c).testBit p = false) ∧ v = -1)) (L 4 0) ?_ ?_ 0 (-1) (Nat.zero_le _) (Or.inr ⟨fun c hc => by omega, rfl⟩)
  · rintro v hI
    have c9 : nI (L 4 0) ≤ nI (L 4 0) := nI_le (Nat.le_refl _) (by omega)
    refine sX11_heldBy_5 (Q0 := fun v M' => v = nI (L 4 0) ∧ M' = M) hR (rm_cloths hR hl) ?_ ?_ ?_ ?_
    · rintro x1 M1 ⟨rfl, rfl⟩ _
      refine ⟨_, rfl, ?_, rfl⟩
      rcases hI with ⟨c, h1, h2, h3⟩ | ⟨h1, h2⟩
      · exact Or.inl ⟨c, by omega, h2, h3⟩
      · refine Or.inr ⟨fun c hc => ?_, h2⟩
        by_cases h3 : c < L 4 0
        · exact h1 c h3
        · rw [(ho.2.2.2.2.2.1 c (by omega)).2.2]; simp
    all_goals (rintro x1 M1 ⟨rfl, rfl⟩ c; exact absurd c9 c)
  · rintro i v hi hI ih
    have c9 : ¬ nI (L 4 0) ≤ nI i := nI_ge hi (by omega)
    have h8 := sp_lt8 (c := i) ho
    have e : nI b + (14 : Int32) + nI i = nI (b + 14 + i) := rm_at (k := 14)
    have hv : M.1 221 (nI b + (14 : Int32) + nI i).toNatClampNeg = nI (s 2 i) := by rw [e, nI_clamp (by omega)]; exact (hs.2.2.1 i (by omega)).2.2
    refine sX11_heldBy_5 (Q0 := fun v M' => v = nI (L 4 0) ∧ M' = M) hR (rm_cloths hR hl) ?_ ?_ ?_ ?_
    · rintro x1 M1 ⟨rfl, rfl⟩ c; exact absurd c c9
    · rintro x1 M1 ⟨rfl, rfl⟩ _; rw [e]; exact vp_in_nI (by omega) (by decide)
    · rintro x1 M1 ⟨rfl, rfl⟩ _ c
      rw [hv, nb_bit' (by omega) (by omega)] at c
      rw [nI_1]
      refine ih _ ?_
      rcases hI with ⟨e1, h1, h2, h3⟩ | ⟨h1, h2⟩
      · exact Or.inl ⟨e1, by omega, h2, h3⟩
      · exact Or.inr ⟨fun e1 he => by by_cases h3 : e1 = i; (· subst h3; exact ts_nt c); (· exact h1 e1 (by omega)), h2⟩
    · rintro x1 M1 ⟨rfl, rfl⟩ _ c
      rw [hv, nb_bit' (by omega) (by omega)] at c
      rw [nI_1]
      exact ih _ (Or.inl ⟨i, by omega, c, rfl⟩)
theorem rm_freePegs (hb : b + 28 ≤ 1242) (hR : pg_isX11 Λ) (hs : rm_S M b s) (hl : rm_L M L E) (hk : sp_okL L E) (ho : sp_okS L s h) : pg_Ev S Λ YX11_freePegs (d + 2) [.ref 207, .int (nI b)] M (fun r M' => ∃ v, r = some (.int v) ∧ (v = nI (sp_free s) ∧ M' = M)) := by
  have h8 := ho.1
  have e1 : nI b + (1 : Int32) = nI (b + 1) := nI_1 b
  have v1 : M.1 221 (nI b + (1 : Int32)).toNatClampNeg = nI (s 4 0) := by rw [e1, nI_clamp (by omega)]; exact hs.2.1
  have b1 : vp_in (nI b + (1 : Int32)) 1242 := by rw [e1]; exact vp_in_nI (by omega) (by decide)
  refine oX11_freePegs (sX11_freePegs_0 ?_)
  refine pg_loop (fun i (v : Int32) => pg_At S Λ YX11_freePegs (d + 2) 4 [(0, .ref 207), (1, .int (nI b)), (2, .int v), (3, .int (nI i))] [] M _) (fun i v => v = nI (sp_mk (fun p => decide (0 < s 3 p) && (sp_by s p).isNone) i)) (s 4 0) ?_ ?_ 0 0 (Nat.zero_le _) rfl
  · rintro v rfl
    have c9 : M.1 221 (nI b + (1 : Int32)).toNatClampNeg ≤ nI (s 4 0) := by rw [v1]; exact nI_le (Nat.le_refl _) (by omega)
    exact sX11_freePegs_4 (Q0 := fun _ _ => True) hR b1 (fun _ => ⟨_, rfl, rfl, rfl⟩) (fun c => absurd c9 c) (fun c => absurd c9 c) (fun c => absurd c9 c) (fun c => absurd c9 c) (fun c => absurd c9 c)
  · rintro i v hi rfl ih
    have c9 : ¬ M.1 221 (nI b + (1 : Int32)).toNatClampNeg ≤ nI i := by rw [v1]; exact nI_ge hi (by omega)
    have e : nI b + (20 : Int32) + nI i = nI (b + 20 + i) := rm_at (k := 20)
    have hv : M.1 221 (nI b + (20 : Int32) + nI i).toNatClampNeg = nI (s 3 i) := by rw [e, nI_clamp (by omega)]; exact hs.2.2.2 i (by omega)
    have h9 := ho.2.2.2.1 i
    refine sX11_freePegs_4 (Q0 := fun v M' => ((∃ c, c < 6 ∧ (s 2 c).testBit i = true ∧ v = nI c) ∨ ((∀ c, c < 6 → (s 2 c).testBit i = false) ∧ v = -1)) ∧ M' = M) hR b1 (fun c => absurd c c9) (fun _ => by rw [e]; exact vp_in_nI (by omega) (by decide)) (fun _ c => ?_) (fun _ _ => rm_heldBy (by omega) hb hR hs hl hk ho) ?_ ?_
    · rw [hv, ← nI_0, nI_leI (by omega) (by omega)] at c
      rw [nI_1, Int32.or_zero]
      exact ih _ (by simp [sp_mk, show ¬ 0 < s 3 i by omega])
    · rintro _ c x1 M1 ⟨hq, rfl⟩ c2
      rw [nI_1, Int32.or_zero]
      refine ih _ ?_
      have : (sp_by s i).isNone = false := by
        rcases hq with ⟨k, h1, h2, h3⟩ | ⟨h1, h2⟩
        · cases hn : (sp_by s i).isNone with
          | false => rfl
          | true => rw [sp_by_none.mp hn k h1] at h2; cases h2
        · rw [h2] at c2; exact absurd c2 (by decide)
      simp [sp_mk, this]
    · rintro _ c x1 M1 ⟨hq, rfl⟩ c2
      rw [hv, ← nI_0, nI_leI (by omega) (by omega)] at c
      rw [nI_1, nb_set (by omega)]
      refine ih _ ?_
      have : (sp_by s i).isNone = true := by
        rcases hq with ⟨k, h1, h2, h3⟩ | ⟨h1, h2⟩
        · rw [h3] at c2; exact absurd (nI_pos' (by omega)) c2
        · exact sp_by_none.mpr h1
      simp [sp_mk, this, show 0 < s 3 i by omega]
theorem rm_mayHang {c n : Nat} (hc : c < L 4 0) (hn : n < 256) (hn0 : 0 < n) (hb : b + 28 ≤ 1242) (hR : pg_isX11 Λ) (hs : rm_S M b s) (hl : rm_L M L E) (hk : sp_okL L E) (ho : sp_okS L s h) : pg_Ev S Λ YX11_mayHang (d + 3) [.ref 207, .int (nI b), .int (nI c), .int (nI n)] M (fun r M' => ∃ v, r = some (.int v) ∧ (v = b2i (sp_may L s c n) ∧ M' = M)) := by
  have h6 := hk.1
  have hf8 := sp_free_lt ho
  have hp := sp_pc_le n
  have hn4 : sp_needs L c ≤ 4 := by unfold sp_needs; split <;> omega
  have no : sp_may L s c n = false → pg_At S Λ YX11_mayHang (d + 3) 48 [(0, .ref 207), (1, .int (nI b)), (2, .int (nI c)), (4, .int (nI (sp_pc n)))] [.int 0] M (fun r M' => ∃ v, r = some (.int v) ∧ (v = b2i (sp_may L s c n) ∧ M' = M)) := fun q => by
    refine sX11_mayHang_48 (Q0 := fun _ _ => True) (Q1 := fun _ _ => True) hR (fun _ => ⟨_, rfl, by rw [q]; rfl, rfl⟩) (fun c => absurd rfl c) (fun c => absurd rfl c) (fun c => absurd rfl c) (fun c => absurd rfl c)
  have yes : sp_may L s c n = decide (nI (sp_roomBy L c (sp_pc n)) ≤ sp_left L s) → pg_At S Λ YX11_mayHang (d + 3) 48 [(0, .ref 207), (1, .int (nI b)), (2, .int (nI c)), (4, .int (nI (sp_pc n)))] [.int 1] M (fun r M' => ∃ v, r = some (.int v) ∧ (v = b2i (sp_may L s c n) ∧ M' = M)) := fun q => by
    refine sX11_mayHang_48 (Q0 := fun v M' => v = nI (sp_roomBy L c (sp_pc n)) ∧ M' = M) (Q1 := fun v M' => v = sp_left L s ∧ M' = M) hR (fun c => absurd c (by decide)) (fun _ => rm_roomBy hc (sp_pc_pos (by omega) (by omega)) (by omega) hR hl hk) ?_ ?_ ?_
    · rintro _ x1 M1 ⟨rfl, rfl⟩; exact rm_roomLeft hb hR hs hl hk ho
    · rintro _ x1 M1 ⟨rfl, rfl⟩ x2 M2 ⟨rfl, rfl⟩ q2
      have : ¬ nI (sp_roomBy L c (sp_pc n)) ≤ sp_left L s := by rw [fa_le]; rw [fa_lt] at q2; omega
      exact ⟨_, rfl, by rw [q, decide_eq_false this]; rfl, rfl⟩
    · rintro _ x1 M1 ⟨rfl, rfl⟩ x2 M2 ⟨rfl, rfl⟩ q2
      have : nI (sp_roomBy L c (sp_pc n)) ≤ sp_left L s := by rw [fa_le]; rw [fa_lt] at q2; omega
      exact ⟨_, rfl, by rw [q, decide_eq_true this]; rfl, rfl⟩
  have sub : ((nI n &&& (nI (sp_free s) ^^^ (-1))) = 0) ↔ n ^^^ (n &&& sp_free s) = 0 := by
    rw [nb_andn, ← nI_0, nI_eq (Nat.xor_lt_two_pow (n := 31) (by omega) (Nat.lt_of_le_of_lt Nat.and_le_left (by omega))) (by omega)]
  refine oX11_mayHang (sX11_mayHang_0 (Q0 := fun v M' => v = nI (sp_pc n) ∧ M' = M) (Q1 := fun v M' => v = b2i (decide (¬ s 2 c = 0)) ∧ M' = M) (Q2 := fun v M' => v = nI (sp_free s) ∧ M' = M) (Q3 := fun v M' => v = nI (sp_needs L c) ∧ M' = M) hR (rm_bits (by omega)) ?_ ?_ ?_ ?_ ?_ ?_ ?_ ?_)
  · rintro x1 M1 ⟨rfl, rfl⟩; exact rm_isHung (by omega) hb hR hs ho
  · rintro x1 M1 ⟨rfl, rfl⟩ x2 M2 ⟨rfl, rfl⟩ q
    rw [b2i_0, decide_eq_false_iff_not, Classical.not_not] at q
    exact no (by simp [sp_may, q])
  · rintro x1 M1 ⟨rfl, rfl⟩ x2 M2 ⟨rfl, rfl⟩ q; exact rm_freePegs hb hR hs hl hk ho
  · rintro x1 M1 ⟨rfl, rfl⟩ x2 M2 ⟨rfl, rfl⟩ q x3 M3 ⟨rfl, rfl⟩ q3
    rw [sub] at q3
    exact no (by simp [sp_may, q3])
  · rintro x1 M1 ⟨rfl, rfl⟩ x2 M2 ⟨rfl, rfl⟩ q x3 M3 ⟨rfl, rfl⟩ q3; exact rm_needs hc hR hl hk
  · rintro x1 M1 ⟨rfl, rfl⟩ x2 M2 ⟨rfl, rfl⟩ q x3 M3 ⟨rfl, rfl⟩ q3 x4 M4 ⟨rfl, rfl⟩ q4
    rw [b2i_0, decide_eq_false_iff_not, Classical.not_not] at q
    rw [sub] at q3
    rw [nI_eq (by omega) (by omega)] at q4
    exact yes (by simp [sp_may, q, q3, q4])
  · rintro x1 M1 ⟨rfl, rfl⟩ x2 M2 ⟨rfl, rfl⟩ q x3 M3 ⟨rfl, rfl⟩ q3 x4 M4 ⟨rfl, rfl⟩ q4 q5
    rw [nI_eq (by omega) (by omega)] at q4
    rw [show (1 : Int32) = nI 1 from rfl, nI_eq (by omega) (by omega)] at q5
    exact no (by simp [sp_may, q4, q5])
  · rintro x1 M1 ⟨rfl, rfl⟩ x2 M2 ⟨rfl, rfl⟩ q x3 M3 ⟨rfl, rfl⟩ q3 x4 M4 ⟨rfl, rfl⟩ q4 q5
    rw [b2i_0, decide_eq_false_iff_not, Classical.not_not] at q
    rw [sub] at q3
    rw [show (1 : Int32) = nI 1 from rfl, nI_eq (by omega) (by omega)] at q5
    exact yes (by simp [sp_may, q, q3, q5])
end PGR
