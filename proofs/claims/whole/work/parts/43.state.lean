/-! the class: State, an hour and what is done by hand -/
theorem pg_min9 {x : Nat} (hx : x < 1000) : pg_min 9 (nI x + 1) = nI (min 9 (x + 1)) := by
  rw [nI_1, show (9 : Int32) = nI 9 from rfl]
  unfold pg_min
  by_cases h1 : x + 1 < 9
  · rw [if_pos (by rw [nI_ltI (by omega) (by omega)]; exact h1), show min 9 (x + 1) = x + 1 by omega]
  · rw [if_neg (by rw [nI_ltI (by omega) (by omega)]; exact h1), show min 9 (x + 1) = 9 by omega]
section PGC
variable {S : pg_S} {Λ : pg_L} {d l a h : Nat} {M : pg_M} {L s : sp_N} {E : sp_E}
theorem rc_S.keep {X : List Nat} {M' : pg_M} (hs : rc_S M a s) (hf : pg_fr X M M') (hX : ∀ j, j < 5 → a + j ∉ X) : rc_S M' a s := hs.fr (fun j hj => hf.1 _ (hX j hj))
theorem rc_L.keep {X : List Nat} {M' : pg_M} (hl : rc_L M l L E) (hf : pg_fr X M M') (hX : ∀ j, j < 15 → j ≠ 11 → j ≠ 14 → l + j ∉ X) : rc_L M' l L E := hl.fr (fun j h1 h2 h3 => hf.1 _ (hX j h1 h2 h3))
theorem rc_fallsBy {c wind : Nat} (hc : c < L 4 0) (hh : ¬ s 2 c = 0) (hA : pg_isX9 Λ a) (hL : pg_isX5 Λ l) (hs : rc_S M a s) (hl : rc_L M l L E) (hk : sp_okL L E) (ho : sp_okS L s h) (hap : pg_apart a l) : pg_Ev S Λ YX9_fallsBy (d + 3) [.ref a, .ref l, .int (nI c), .int (nI wind)] M (fun r M' => ∃ v, r = some (.int v) ∧ (v = b2i (sp_hit L E s c wind).2 ∧ rc_S M' a (sp_hit L E s c wind).1 ∧ pg_fr [a + 1, a + 2, a + 3, a + 4, l + 11] M M')) := by
  have hc6 := hk.1
  have hcl : (nI c).toNatClampNeg = c := nI_clamp (by omega)
  have h8 := sp_lt8 (c := c) ho
  have hpl := sp_pull_le (L := L) (E := E) (c := c) (wet := s 0 c) (wind := wind)
  have hgl := sp_grips_le (bits := s 2 c) (less := 0) ho
  have ap : ∀ j, j < 5 → a + j ∉ [l + 11] := fun j hj => by simp; unfold pg_apart at hap; omega
  have hsub : ∀ b, b ∈ [l + 11] → b ∈ [a + 1, a + 2, a + 3, a + 4, l + 11] := fun b hb => by simp at hb; simp [hb]
  have hsub4 : ∀ b, b ∈ [a + 4, l + 11] → b ∈ [a + 1, a + 2, a + 3, a + 4, l + 11] := fun b hb => by simp at hb; rcases hb with h | h <;> simp [h]
  refine oX9_fallsBy (sX9_fallsBy_0 (Q0 := fun v M' => v = nI (sp_pull L E c (s 0 c) wind) ∧ pg_fr [l + 11] M M') (Q1 := fun v M' => v = nI (sp_grips s (s 2 c) 0) ∧ pg_fr [l + 11] M M') (Q2 := fun M' => rc_S M' a (sp_weak s (s 2 c)) ∧ pg_fr [a + 4, l + 11] M M') (Q3 := fun v M' => v = nI (sp_sound (sp_weak s (s 2 c))) ∧ rc_S M' a (sp_weak s (s 2 c)) ∧ pg_fr [a + 4, l + 11] M M') hA hL (vp_in_nI (by omega) (by decide)) ?_ ?_ ?_ ?_ ?_ ?_ ?_ ?_ ?_ ?_)
  · rw [hcl, (hs.2.2.1 c (by omega)).1]
    exact rc_pullOn hc hL hl hk
  · rintro x1 M1 ⟨rfl, hf⟩
    have hs1 := hs.keep hf ap
    rw [hcl, (hs1.2.2.1 c (by omega)).2.2]
    exact pg_Ev.imp (fun r M' q => by obtain ⟨v, e1, e2, rfl⟩ := q; exact ⟨v, e1, e2, hf⟩) (rc_gripsOf (by omega) hA hs1 ho)
  · rintro x1 M1 ⟨rfl, hf1⟩ x2 M2 ⟨rfl, hf⟩ c1 c2
    have hs1 := hs.keep hf ap
    rw [hcl, (hs1.2.2.1 c (by omega)).2.2, ← nI_0, nI_eq (by omega) (by omega)] at c2
    exact absurd c2 hh
  · rintro x1 M1 ⟨rfl, hf1⟩ x2 M2 ⟨rfl, hf⟩ c1 c2
    rw [show (2 : Int32) = nI 2 from rfl, pk_mul, nI_leI (by omega) (by omega)] at c1
    have hx : sp_hit L E s c wind = (s, false) := by unfold sp_hit; rw [if_pos c1]
    rw [hx]
    exact ⟨_, rfl, rfl, hs.keep hf ap, hf.mono hsub⟩
  · rintro x1 M1 ⟨rfl, hf1⟩ x2 M2 ⟨rfl, hf⟩ c1
    have hs1 := hs.keep hf ap
    rw [hcl, (hs1.2.2.1 c (by omega)).2.2]
    refine pg_Ev.imp (fun r M' q => ?_) (rc_weaken (by omega) hA hs1 ho)
    obtain ⟨e1, e2, e3⟩ := q
    exact ⟨e1, e2, (hf.mono (fun b hb => by simp at hb; simp [hb])).trans (e3.mono (fun b hb => by simp at hb; simp [hb]))⟩
  · rintro x1 M1 ⟨rfl, hf1⟩ x2 M2 ⟨rfl, hf⟩ c1 M3 ⟨hs3, hf3⟩ c2
    exact pg_Ev.imp (fun r M' q => by obtain ⟨v, e1, e2, rfl⟩ := q; exact ⟨v, e1, e2, hs3, hf3⟩) (rc_unsplit hA hs3 ho.weak)
  · rintro x1 M1 ⟨rfl, hf1⟩ x2 M2 ⟨rfl, hf⟩ c1 M3 ⟨hs3, hf3⟩ c2 x4 M4 ⟨rfl, hs4, hf4⟩ c3 N2 rfl
    rw [show (2 : Int32) = nI 2 from rfl, pk_mul, nI_leI (by omega) (by omega)] at c1
    rw [nI_leI (by omega) (by omega)] at c2
    have hw3 : M3.1 (a + 3) (nI c).toNatClampNeg = nI (s 2 c) := by rw [hcl, (hs3.2.2.1 c (by omega)).2.2, sp_weak_2]
    rw [hw3, fa_and, pg_si_at, pk_us, ← nI_0, nI_eq (Nat.lt_of_le_of_lt Nat.and_le_left (by omega)) (by omega)] at c3
    have hx : sp_hit L E s c wind = (sp_drop (sp_weak s (s 2 c)) c, true) := by unfold sp_hit; rw [if_neg c1, if_pos (Or.inr c3)]
    rw [hx, hw3, fa_and, c3, hcl]
    have hst : (sp_weak s (s 2 c)) 1 c = s 1 c := by simp [sp_weak]
    have h9 := (ho.2.2.1 c).2.1
    have g1 := (hs4.w2 (c := c) (v := 0)).w0 (c := c) (v := 9)
    have g2 : (pg_si (pg_si M4 (a + 3) c (nI 0)) (a + 1) c (nI 9)).1 (a + 2) c = nI (s 1 c) := by
      rw [pg_si_ne (by omega), pg_si_ne (by omega), (hs4.2.2.1 c (by omega)).2.1, hst]
    refine ⟨_, rfl, rfl, ?_, ?_⟩
    · rw [show (9 : Int32) = nI 9 from rfl, g2, show nI 9 = (9 : Int32) from rfl, pg_min9 (by omega)]
      have g3 := g1.w1 (c := c) (v := min 9 (s 1 c + 1))
      unfold sp_drop
      rw [hst]
      exact g3
    · exact (((hf4.mono hsub4).trans (pg_fr.si (by simp))).trans (pg_fr.si (by simp))).trans (pg_fr.si (by simp))
  · rintro x1 M1 ⟨rfl, hf1⟩ x2 M2 ⟨rfl, hf⟩ c1 M3 ⟨hs3, hf3⟩ c2 x4 M4 ⟨rfl, hs4, hf4⟩ c3
    rw [show (2 : Int32) = nI 2 from rfl, pk_mul, nI_leI (by omega) (by omega)] at c1
    rw [nI_leI (by omega) (by omega)] at c2
    have hw3 : M3.1 (a + 3) (nI c).toNatClampNeg = nI (s 2 c) := by rw [hcl, (hs3.2.2.1 c (by omega)).2.2, sp_weak_2]
    rw [hw3, fa_and, pg_si_at, pk_us, ← nI_0, nI_eq (Nat.lt_of_le_of_lt Nat.and_le_left (by omega)) (by omega)] at c3
    have hx : sp_hit L E s c wind = (sp_up (sp_weak s (s 2 c)) 2 c (s 2 c &&& sp_sound (sp_weak s (s 2 c))), false) := by
      unfold sp_hit; rw [if_neg c1, if_neg (fun q => q.elim (fun q => q c2) c3)]
    rw [hx, hw3, fa_and, hcl]
    exact ⟨_, rfl, rfl, hs4.w2, (hf4.mono hsub4).trans (pg_fr.si (by simp))⟩
  · rintro x1 M1 ⟨rfl, hf1⟩ x2 M2 ⟨rfl, hf⟩ c1 M3 ⟨hs3, hf3⟩ c2 c3 N3 rfl
    rw [show (2 : Int32) = nI 2 from rfl, pk_mul, nI_leI (by omega) (by omega)] at c1
    rw [nI_leI (by omega) (by omega)] at c2
    have hx : sp_hit L E s c wind = (sp_drop (sp_weak s (s 2 c)) c, true) := by unfold sp_hit; rw [if_neg c1, if_pos (Or.inl c2)]
    rw [hx, hcl]
    have hst : (sp_weak s (s 2 c)) 1 c = s 1 c := by simp [sp_weak]
    have h9 := (ho.2.2.1 c).2.1
    have g1 := (hs3.w2 (c := c) (v := 0)).w0 (c := c) (v := 9)
    have g2 : (pg_si (pg_si M3 (a + 3) c (nI 0)) (a + 1) c (nI 9)).1 (a + 2) c = nI (s 1 c) := by
      rw [pg_si_ne (by omega), pg_si_ne (by omega), (hs3.2.2.1 c (by omega)).2.1, hst]
    rw [nI_0, show nI 9 = (9 : Int32) from rfl] at g1 g2
    refine ⟨_, rfl, rfl, ?_, ?_⟩
    · rw [g2, pg_min9 (by omega)]
      have g3 := g1.w1 (c := c) (v := min 9 (s 1 c + 1))
      unfold sp_drop
      rw [hst]
      exact g3
    · exact (((hf3.mono hsub4).trans (pg_fr.si (by simp))).trans (pg_fr.si (by simp))).trans (pg_fr.si (by simp))
  · rintro x1 M1 ⟨rfl, hf1⟩ x2 M2 ⟨rfl, hf⟩ c1 M3 ⟨hs3, hf3⟩ c2 c3
    rw [pg_si_at, pk_us] at c3
    exact absurd rfl c3
theorem rc_passHour {gust : Nat} (hh31 : h < 2 ^ 30) (hg : gust ≤ 3) (hA : pg_isX9 Λ a) (hL : pg_isX5 Λ l) (hs : rc_S M a s) (hl : rc_L M l L E) (hk : sp_okL L E) (ho : sp_okS L s h) (hap : pg_apart a l) : pg_Ev S Λ YX9_passHour (d + 4) [.ref a, .ref l, .int (nI gust)] M (fun r M' => ∃ v, r = some (.int v) ∧ (v = nI (sp_hour L E s gust).2 ∧ rc_S M' a (sp_hour L E s gust).1 ∧ pg_fr [a, a + 1, a + 2, a + 3, a + 4, l + 11, l + 14] M M')) := by
  have hc6 := hk.1
  have hho := ho.2.1
  refine oX9_passHour (sX9_passHour_0 (Q0 := fun v M' => v = nI (sp_wind L (s 4 1)) ∧ M' = M) hA hL (by rw [hs.2.1]; exact rc_windAt (by omega) hL hl hk) ?_)
  rintro x1 M1 ⟨rfl, rfl⟩
  rw [nI_add]
  generalize hw : sp_wind L (s 4 1) + gust = w
  have lX : ∀ j, j < 15 → j ≠ 11 → j ≠ 14 → l + j ∉ [a, a + 1, a + 2, a + 3, a + 4, l + 11, l + 14] := fun j h1 h2 h3 => by simp; unfold pg_apart at hap; omega
  have aX : ∀ j, j < 5 → a + j ∉ [l + 14] := fun j hj => by simp; unfold pg_apart at hap; omega
  refine pg_loop (fun i (q : Int32 × pg_M) => pg_At S Λ YX9_passHour (d + 4) 17 [(0, .ref a), (1, .ref l), (3, .int (nI w)), (4, .int q.1), (5, .int (nI i))] [] q.2 _) (fun i q => q.1 = nI (sp_hits L E s w i).2 ∧ rc_S q.2 a (sp_hits L E s w i).1 ∧ pg_fr [a, a + 1, a + 2, a + 3, a + 4, l + 11, l + 14] M1 q.2) (L 4 0) ?_ ?_ 0 (0, M1) (Nat.zero_le _) ⟨rfl, hs, pg_fr.rfl'⟩
  · rintro ⟨n, M2⟩ ⟨hn, hs2, hf2⟩
    simp only at hn hs2 hf2 ⊢
    have hl2 := hl.keep hf2 lX
    have c9 : M2.1 l 10 ≤ nI (L 4 0) := by rw [hl2.1]; exact nI_le (Nat.le_refl _) (by omega)
    refine sX9_passHour_17 (Q0 := fun _ _ => True) hL hA (fun _ => ?_) (fun c => absurd c9 c) (fun c => absurd c9 c) (fun c => absurd c9 c) (fun c => absurd c9 c) (fun c => absurd c9 c)
    have ho2 : sp_okS L (sp_hits L E s w (L 4 0)).1 h := ho.hits _ (Nat.le_refl _)
    refine pg_loop (fun i (M3 : pg_M) => pg_At S Λ YX9_passHour (d + 4) 59 [(0, .ref a), (1, .ref l), (3, .int (nI w)), (4, .int n), (5, .int (nI i))] [] M3 _) (fun i M3 => rc_S M3 a (sp_dries L E (sp_hits L E s w (L 4 0)).1 w i) ∧ pg_fr [a, a + 1, a + 2, a + 3, a + 4, l + 11, l + 14] M1 M3) (L 4 0) ?_ ?_ 0 M2 (Nat.zero_le _) ⟨hs2, hf2⟩
    · rintro M3 ⟨hs3, hf3⟩
      have hl3 := hl.keep hf3 lX
      have c9 : M3.1 l 10 ≤ nI (L 4 0) := by rw [hl3.1]; exact nI_le (Nat.le_refl _) (by omega)
      refine sX9_passHour_59 (Q0 := fun _ _ => True) hL hA (fun _ => ?_) (fun c => absurd c9 c) (fun c => absurd c9 c) (fun c => absurd c9 c) (fun c => absurd c9 c)
      refine ⟨_, rfl, ?_, ?_, hf3.trans (pg_fr.si (by simp))⟩
      · rw [hn]; unfold sp_hour; rw [hw]
      · have e1 : (sp_dries L E (sp_hits L E s w (L 4 0)).1 w (L 4 0)) 4 1 = s 4 1 := by rw [sp_dries_4, sp_hits_4]
        rw [hs3.2.1, e1, nI_1]
        unfold sp_hour
        rw [hw]
        exact hs3.wh
    · rintro i M3 hi ⟨hs3, hf3⟩ ih
      have hl3 := hl.keep hf3 lX
      have ho3 : sp_okS L (sp_dries L E (sp_hits L E s w (L 4 0)).1 w i) h := ho2.dries i (by omega)
      have c9 : ¬ M3.1 l 10 ≤ nI i := by rw [hl3.1]; exact nI_ge hi (by omega)
      have hcl : (nI i).toNatClampNeg = i := nI_clamp (by omega)
      have h8 := sp_lt8 (c := i) ho3
      have hq := hs3.2.2.1 i (by omega)
      refine sX9_passHour_59 (Q0 := fun v M' => v = nI (sp_dry L E i (sp_dries L E (sp_hits L E s w (L 4 0)).1 w i 0 i) w) ∧ pg_fr [l + 14] M3 M') hL hA (fun c => absurd c c9) (fun _ => vp_in_nI (by omega) (by decide)) (fun _ c => ?_) (fun _ c => ?_) (fun _ c => ?_)
      · rw [hcl, hq.2.2, ← nI_0, nI_eq (by omega) (by omega)] at c
        rw [nI_1]
        refine ih _ ⟨?_, hf3⟩
        simp only [sp_dries, if_pos c]
        exact hs3
      · rw [hcl, hq.1]
        exact rc_wetAfter hi (by have := (ho3.2.2.1 i).1; omega) hL hl3 hk
      · rw [hcl, hq.2.2, ← nI_0, nI_eq (by omega) (by omega)] at c
        rintro x4 M4 ⟨rfl, hf4⟩
        rw [nI_1, hcl]
        have hs4 := hs3.keep hf4 aX
        refine ih _ ⟨?_, (hf3.trans (hf4.mono (fun b hb => by simp at hb; simp [hb]))).trans (pg_fr.si (by simp))⟩
        simp only [sp_dries, if_neg c]
        exact hs4.w0
  · rintro i ⟨n, M2⟩ hi ⟨hn, hs2, hf2⟩ ih
    simp only at hn hs2 hf2 ⊢
    have hl2 := hl.keep hf2 lX
    have ho2 : sp_okS L (sp_hits L E s w i).1 h := ho.hits i (by omega)
    have c9 : ¬ M2.1 l 10 ≤ nI i := by rw [hl2.1]; exact nI_ge hi (by omega)
    have hcl : (nI i).toNatClampNeg = i := nI_clamp (by omega)
    have h8 := sp_lt8 (c := i) ho2
    have hq := hs2.2.2.1 i (by omega)
    have hsb : ∀ b, b ∈ [a + 1, a + 2, a + 3, a + 4, l + 11] → b ∈ [a, a + 1, a + 2, a + 3, a + 4, l + 11, l + 14] := fun b hb => by simp at hb ⊢; omega
    refine sX9_passHour_17 (Q0 := fun v M' => v = b2i (sp_hit L E (sp_hits L E s w i).1 i w).2 ∧ rc_S M' a (sp_hit L E (sp_hits L E s w i).1 i w).1 ∧ pg_fr [a + 1, a + 2, a + 3, a + 4, l + 11] M2 M') hL hA (fun c => absurd c c9) (fun _ => vp_in_nI (by omega) (by decide)) (fun _ c => ?_) (fun _ c => ?_) (fun _ c => ?_) (fun _ c => ?_)
    · rw [hcl, hq.2.2, ← nI_0, nI_eq (by omega) (by omega)] at c
      rw [nI_1]
      refine ih (n, M2) ⟨?_, ?_, hf2⟩
      · simp only [sp_hits, if_pos c]; exact hn
      · simp only [sp_hits, if_pos c]; exact hs2
    · rw [hcl, hq.2.2, ← nI_0, nI_eq (by omega) (by omega)] at c
      exact rc_fallsBy hi c hA hL hs2 hl2 hk ho2 hap
    · rw [hcl, hq.2.2, ← nI_0, nI_eq (by omega) (by omega)] at c
      rintro x3 M3 ⟨rfl, hs3, hf3⟩ c2
      rw [nI_1]
      refine ih (n, M3) ⟨?_, ?_, hf2.trans (hf3.mono hsb)⟩
      · simp only [sp_hits, if_neg c, b2i_0.mp c2]; rw [hn]; rfl
      · simp only [sp_hits, if_neg c]; exact hs3
    · rw [hcl, hq.2.2, ← nI_0, nI_eq (by omega) (by omega)] at c
      rintro x3 M3 ⟨rfl, hs3, hf3⟩ c2
      rw [nI_1]
      refine ih (n + 1, M3) ⟨?_, ?_, hf2.trans (hf3.mono hsb)⟩
      · simp only [sp_hits, if_neg c, ts_nf (fun q => c2 (b2i_0.mpr q)), if_true]; rw [hn, nI_1]
      · simp only [sp_hits, if_neg c]; exact hs3
end PGC
