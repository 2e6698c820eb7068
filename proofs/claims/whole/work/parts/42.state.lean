/-! the class: State, what it does -/
theorem sp_by_none {s : sp_N} {p : Nat} : (sp_by s p).isNone = true ↔ ∀ c, c < 6 → (s 2 c).testBit p = false := by
  unfold sp_by
  rw [Option.isNone_iff_eq_none, List.find?_eq_none]
  constructor
  · intro h c hc
    have := h c (List.mem_range.mpr hc)
    simpa using this
  · intro h c hc
    rw [h c (List.mem_range.mp hc)]
    simp
theorem sp_pull_le {L : sp_N} {E : sp_E} {c wet wind : Nat} : sp_pull L E c wet wind ≤ 198 := by
  have := sp_cut_le 99 (sp_val (E 0) (nI wind) (nI (sp_mass L c wet)) (nI (L 1 c))) (by decide)
  unfold sp_pull
  simp only
  split <;> omega
theorem sp_grips_le {L s : sp_N} {h bits less : Nat} (ho : sp_okS L s h) : sp_grips s bits less ≤ 72 := by
  have h1 : sp_grips s bits less ≤ s 4 0 * 9 := by
    have h2 := fb_sm_le (f := fun p => if bits.testBit p then s 3 p - less else 0) (g := fun _ => 9) (n := s 4 0) (fun k _ => by have := ho.2.2.2.1 k; split <;> omega)
    rw [fb_sm_const] at h2
    exact h2
  have := ho.1
  omega
def pg_apart (a l : Nat) : Prop := a + 5 ≤ l ∨ l + 15 ≤ a
section PGC
variable {S : pg_S} {Λ : pg_L} {d l a h : Nat} {M : pg_M} {L s : sp_N} {E : sp_E}
theorem rc_S.w0 {c v : Nat} (hs : rc_S M a s) : rc_S (pg_si M (a + 1) c (nI v)) a (sp_up s 0 c v) := by
  obtain ⟨s1, s2, s3, s4⟩ := hs
  refine ⟨by rw [pg_si_ne (by omega)]; simpa [sp_up] using s1, by rw [pg_si_ne (by omega)]; simpa [sp_up] using s2, fun e he => ?_, fun p hp => ?_⟩
  · have h3 := s3 e he
    rw [pg_si_at, pg_si_ne (by omega), pg_si_ne (by omega)]
    by_cases h1 : e = c
    · subst h1; rw [pk_us]; simp [sp_up, h3]
    · rw [pk_un h1]; simp [sp_up, h1, h3]
  · rw [pg_si_ne (by omega)]
    have hp' : p < s 4 0 := by simpa [sp_up] using hp
    simpa [sp_up] using s4 p hp'
theorem rc_S.w1 {c v : Nat} (hs : rc_S M a s) : rc_S (pg_si M (a + 2) c (nI v)) a (sp_up s 1 c v) := by
  obtain ⟨s1, s2, s3, s4⟩ := hs
  refine ⟨by rw [pg_si_ne (by omega)]; simpa [sp_up] using s1, by rw [pg_si_ne (by omega)]; simpa [sp_up] using s2, fun e he => ?_, fun p hp => ?_⟩
  · have h3 := s3 e he
    rw [pg_si_at, pg_si_ne (by omega), pg_si_ne (by omega)]
    by_cases h1 : e = c
    · subst h1; rw [pk_us]; simp [sp_up, h3]
    · rw [pk_un h1]; simp [sp_up, h1, h3]
  · rw [pg_si_ne (by omega)]
    have hp' : p < s 4 0 := by simpa [sp_up] using hp
    simpa [sp_up] using s4 p hp'
theorem rc_S.w2 {c v : Nat} (hs : rc_S M a s) : rc_S (pg_si M (a + 3) c (nI v)) a (sp_up s 2 c v) := by
  obtain ⟨s1, s2, s3, s4⟩ := hs
  refine ⟨by rw [pg_si_ne (by omega)]; simpa [sp_up] using s1, by rw [pg_si_ne (by omega)]; simpa [sp_up] using s2, fun e he => ?_, fun p hp => ?_⟩
  · have h3 := s3 e he
    rw [pg_si_at, pg_si_ne (by omega), pg_si_ne (by omega)]
    by_cases h1 : e = c
    · subst h1; rw [pk_us]; simp [sp_up, h3]
    · rw [pk_un h1]; simp [sp_up, h1, h3]
  · rw [pg_si_ne (by omega)]
    have hp' : p < s 4 0 := by simpa [sp_up] using hp
    simpa [sp_up] using s4 p hp'
theorem rc_S.wh {v : Nat} (hs : rc_S M a s) : rc_S (pg_si M a 5 (nI v)) a (sp_up s 4 1 v) := by
  obtain ⟨s1, s2, s3, s4⟩ := hs
  refine ⟨by rw [pg_si_at, pk_un (by decide)]; simpa [sp_up] using s1, by rw [pg_si_at, pk_us]; simp [sp_up], fun e he => ?_, fun p hp => ?_⟩
  · rw [pg_si_ne (by omega), pg_si_ne (by omega), pg_si_ne (by omega)]
    simpa [sp_up] using s3 e he
  · rw [pg_si_ne (by omega)]
    have hp' : p < s 4 0 := by simpa [sp_up] using hp
    simpa [sp_up] using s4 p hp'
theorem rc_heldBy {p : Nat} (hp : p < 8) (hA : pg_isX9 Λ a) (hs : rc_S M a s) (ho : sp_okS L s h) : pg_Ev S Λ YX9_heldBy d [.ref a, .int (nI p)] M (fun r M' => ∃ v, r = some (.int v) ∧ (((∃ c, c < 6 ∧ (s 2 c).testBit p = true ∧ v = nI c) ∨ ((∀ c, c < 6 → (s 2 c).testBit p = false) ∧ v = -1)) ∧ M' = M)) := by
  refine oX9_heldBy (sX9_heldBy_0 ?_)
  refine pg_loop (fun i (_ : Unit) => pg_At S Λ YX9_heldBy d 2 [(0, .ref a), (1, .int (nI p)), (2, .int (nI i))] [] M _) (fun i _ => ∀ c, c < i → (s 2 c).testBit p = false) 6 ?_ ?_ 0 () (Nat.zero_le _) (fun c hc => by omega)
  · rintro _ hI
    exact sX9_heldBy_2 hA (fun _ => ⟨_, rfl, Or.inr ⟨hI, rfl⟩, rfl⟩) (fun c => absurd (show (6 : Int32) ≤ nI 6 by decide) c) (fun c => absurd (show (6 : Int32) ≤ nI 6 by decide) c) (fun c => absurd (show (6 : Int32) ≤ nI 6 by decide) c)
  · rintro i _ hi hI ih
    have c9 : ¬ (6 : Int32) ≤ nI i := nI_ge (b := 6) hi (by decide)
    have hh : M.1 (a + 3) (nI i).toNatClampNeg = nI (s 2 i) := by rw [nI_clamp (by omega)]; exact (hs.2.2.1 i hi).2.2
    have h8 := sp_lt8 (c := i) ho
    refine sX9_heldBy_2 hA (fun c => absurd c c9) (fun _ => vp_in_nI hi (by decide)) (fun _ c => ?_) (fun _ c => ?_)
    · rw [hh, nb_bit (by omega) (by omega)] at c
      rw [nI_1]
      exact ih () (fun e he => by by_cases h1 : e = i; (· subst h1; exact c); (· exact hI e (by omega)))
    · rw [hh, nb_bit (by omega) (by omega)] at c
      exact ⟨_, rfl, Or.inl ⟨i, hi, ts_nf c, rfl⟩, rfl⟩
theorem rc_unsplit (hA : pg_isX9 Λ a) (hs : rc_S M a s) (ho : sp_okS L s h) : pg_Ev S Λ YX9_unsplitPegs d [.ref a] M (fun r M' => ∃ v, r = some (.int v) ∧ (v = nI (sp_sound s) ∧ M' = M)) := by
  have h8 := ho.1
  refine oX9_unsplitPegs (sX9_unsplitPegs_0 ?_)
  refine pg_loop (fun i (v : Int32) => pg_At S Λ YX9_unsplitPegs d 4 [(0, .ref a), (1, .int v), (2, .int (nI i))] [] M _) (fun i v => v = nI (sp_mk (fun p => decide (0 < s 3 p)) i)) (s 4 0) ?_ ?_ 0 0 (Nat.zero_le _) rfl
  · rintro v rfl
    have c9 : M.1 a 4 ≤ nI (s 4 0) := by rw [hs.1]; exact nI_le (Nat.le_refl _) (by omega)
    exact sX9_unsplitPegs_4 hA (fun _ => ⟨_, rfl, rfl, rfl⟩) (fun c => absurd c9 c) (fun c => absurd c9 c) (fun c => absurd c9 c)
  · rintro i v hi rfl ih
    have c9 : ¬ M.1 a 4 ≤ nI i := by rw [hs.1]; exact nI_ge hi (by omega)
    have hg : M.1 (a + 4) (nI i).toNatClampNeg = nI (s 3 i) := by rw [nI_clamp (by omega)]; exact hs.2.2.2 i hi
    have h9 := ho.2.2.2.1 i
    refine sX9_unsplitPegs_4 hA (fun c => absurd c c9) (fun _ => vp_in_nI (by omega) (by decide)) (fun _ c => ?_) (fun _ c => ?_)
    · rw [hg, ← nI_0, nI_leI (by omega) (by omega)] at c
      rw [nI_1]
      exact ih _ (by simp [sp_mk, show ¬ 0 < s 3 i by omega])
    · rw [hg, ← nI_0, nI_leI (by omega) (by omega)] at c
      rw [nI_1, nb_set (by omega)]
      exact ih _ (by simp [sp_mk, show 0 < s 3 i by omega])
theorem rc_freePegs (hA : pg_isX9 Λ a) (hs : rc_S M a s) (ho : sp_okS L s h) : pg_Ev S Λ YX9_freePegs (d + 1) [.ref a] M (fun r M' => ∃ v, r = some (.int v) ∧ (v = nI (sp_free s) ∧ M' = M)) := by
  refine oX9_freePegs (sX9_freePegs_0 (Q0 := fun v M' => v = nI (sp_sound s) ∧ M' = M) hA (rc_unsplit hA hs ho) ?_)
  rintro x1 M1 ⟨rfl, rfl⟩
  refine pg_loop (fun i (v : Int32) => pg_At S Λ YX9_freePegs (d + 1) 7 [(0, .ref a), (1, .int v), (2, .int (nI i))] [] M1 _) (fun i v => ∃ m, v = nI m ∧ ∀ p, m.testBit p = ((sp_sound s).testBit p && decide (∀ e, e < i → (s 2 e).testBit p = false))) 6 ?_ ?_ 0 _ (Nat.zero_le _) ⟨_, rfl, fun p => by simp⟩
  · rintro v ⟨m, rfl, hm⟩
    refine sX9_freePegs_7 hA (fun _ => ⟨_, rfl, ?_, rfl⟩) (fun c => absurd (show (6 : Int32) ≤ nI 6 by decide) c) (fun c => absurd (show (6 : Int32) ≤ nI 6 by decide) c)
    congr 1
    apply Nat.eq_of_testBit_eq
    intro p
    rw [hm p]
    unfold sp_sound sp_free
    rw [sp_mk_bit, sp_mk_bit, Bool.and_assoc]
    congr 2
    rw [Bool.eq_iff_iff, decide_eq_true_iff, sp_by_none]
  · rintro i v hi ⟨m, rfl, hm⟩ ih
    have c9 : ¬ (6 : Int32) ≤ nI i := nI_ge (b := 6) hi (by decide)
    refine sX9_freePegs_7 hA (fun c => absurd c c9) (fun _ => vp_in_nI hi (by decide)) (fun _ => ?_)
    rw [nI_clamp (by omega), (hs.2.2.1 i hi).2.2, nb_andn, nI_1]
    refine ih _ ⟨_, rfl, fun p => ?_⟩
    rw [Nat.testBit_xor, Nat.testBit_and, hm p]
    have : decide (∀ e, e < i + 1 → (s 2 e).testBit p = false) = (decide (∀ e, e < i → (s 2 e).testBit p = false) && !(s 2 i).testBit p) := by
      rw [Bool.eq_iff_iff, Bool.and_eq_true, decide_eq_true_iff, decide_eq_true_iff]
      constructor
      · intro h1; exact ⟨fun e he => h1 e (by omega), by rw [h1 i (by omega)]; rfl⟩
      · rintro ⟨h1, h2⟩ e he
        by_cases h3 : e = i
        · subst h3; simpa using h2
        · exact h1 e (by omega)
    rw [this]
    cases (sp_sound s).testBit p <;> cases decide (∀ e, e < i → (s 2 e).testBit p = false) <;> cases (s 2 i).testBit p <;> rfl
theorem rc_gripsLess {bits less : Nat} (hb : bits < 2 ^ 31) (hl9 : less < 100) (hA : pg_isX9 Λ a) (hs : rc_S M a s) (ho : sp_okS L s h) : pg_Ev S Λ YX9_gripsLess (d + 1) [.ref a, .int (nI bits), .int (nI less)] M (fun r M' => ∃ v, r = some (.int v) ∧ (v = nI (sp_grips s bits less) ∧ M' = M)) := by
  have h8 := ho.1
  refine oX9_gripsLess (sX9_gripsLess_0 ?_)
  refine pg_loop (fun i (v : Int32) => pg_At S Λ YX9_gripsLess (d + 1) 5 [(0, .ref a), (1, .int (nI bits)), (2, .int (nI less)), (3, .int v), (4, .int (nI i))] [] M _) (fun i v => v = nI (fb_sm (fun p => if bits.testBit p then s 3 p - less else 0) i)) (s 4 0) ?_ ?_ 0 0 (Nat.zero_le _) rfl
  · rintro v rfl
    have c9 : M.1 a 4 ≤ nI (s 4 0) := by rw [hs.1]; exact nI_le (Nat.le_refl _) (by omega)
    exact sX9_gripsLess_5 hA (fun _ => ⟨_, rfl, rfl, rfl⟩) (fun c => absurd c9 c) (fun c => absurd c9 c) (fun c => absurd c9 c)
  · rintro i v hi rfl ih
    have c9 : ¬ M.1 a 4 ≤ nI i := by rw [hs.1]; exact nI_ge hi (by omega)
    have hg : M.1 (a + 4) (nI i).toNatClampNeg = nI (s 3 i) := by rw [nI_clamp (by omega)]; exact hs.2.2.2 i hi
    have h9 := ho.2.2.2.1 i
    refine sX9_gripsLess_5 hA (fun c => absurd c c9) (fun _ c => ?_) (fun _ _ => vp_in_nI (by omega) (by decide)) (fun _ c => ?_)
    · rw [nb_bit hb (by omega)] at c
      rw [nI_1]
      exact ih _ (by simp [fb_sm_succ, c])
    · rw [nb_bit hb (by omega)] at c
      have hmx : pg_max 0 (nI (s 3 i) - nI less) = nI (s 3 i - less) := by
        unfold pg_max
        by_cases h1 : less ≤ s 3 i
        · rw [pk_sub h1]
          by_cases h2 : s 3 i - less = 0
          · rw [h2, nI_0]; rfl
          · have : (0 : Int32) < nI (s 3 i - less) := by rw [← nI_0, nI_ltI (by omega) (by omega)]; omega
            rw [if_pos this]
        · have : ¬ (0 : Int32) < nI (s 3 i) - nI less := by
            have := pk_sneg (a := s 3 i) (b := less) (by omega) (by omega)
            rw [fa_lt] at this ⊢
            omega
          rw [if_neg this, show s 3 i - less = 0 by omega, nI_0]
      rw [nI_1, hg, hmx, nI_add]
      exact ih _ (by simp [fb_sm_succ, c])
theorem rc_gripsOf {bits : Nat} (hb : bits < 2 ^ 31) (hA : pg_isX9 Λ a) (hs : rc_S M a s) (ho : sp_okS L s h) : pg_Ev S Λ YX9_gripsOf (d + 2) [.ref a, .int (nI bits)] M (fun r M' => ∃ v, r = some (.int v) ∧ (v = nI (sp_grips s bits 0) ∧ M' = M)) := by
  refine oX9_gripsOf (sX9_gripsOf_0 (Q0 := fun v M' => v = nI (sp_grips s bits 0) ∧ M' = M) hA (rc_gripsLess (less := 0) hb (by decide) hA hs ho) ?_)
  rintro x1 M1 ⟨rfl, rfl⟩
  exact ⟨_, rfl, rfl, rfl⟩
theorem rc_weaken {bits : Nat} (hb : bits < 2 ^ 31) (hA : pg_isX9 Λ a) (hs : rc_S M a s) (ho : sp_okS L s h) : pg_Ev S Λ YX9_weaken d [.ref a, .int (nI bits)] M (fun r M' => r = none ∧ (rc_S M' a (sp_weak s bits) ∧ pg_fr [a + 4] M M')) := by
  have h8 := ho.1
  refine oX9_weaken (sX9_weaken_0 ?_)
  refine pg_loop (fun i (M1 : pg_M) => pg_At S Λ YX9_weaken d 2 [(0, .ref a), (1, .int (nI bits)), (2, .int (nI i))] [] M1 _) (fun i M1 => pg_fr [a + 4] M M1 ∧ ∀ p, p < s 4 0 → M1.1 (a + 4) p = nI (if p < i ∧ bits.testBit p = true then s 3 p - 1 else s 3 p)) (s 4 0) ?_ ?_ 0 M (Nat.zero_le _) ⟨pg_fr.rfl', fun p hp => by simp; exact hs.2.2.2 p hp⟩
  · rintro M1 ⟨hf, hp⟩
    have hM : M1.1 a 4 = nI (s 4 0) := by rw [hf.1 a (by simp)]; exact hs.1
    have c9 : M1.1 a 4 ≤ nI (s 4 0) := by rw [hM]; exact nI_le (Nat.le_refl _) (by omega)
    refine sX9_weaken_2 hA (fun _ => ⟨rfl, ?_, hf⟩) (fun c => absurd c9 c) (fun c => absurd c9 c) (fun c => absurd c9 c) (fun c => absurd c9 c)
    refine ⟨by simpa [sp_weak] using hM, ?_, fun e he => ?_, fun p hp1 => ?_⟩
    · rw [hf.1 a (by simp)]; simpa [sp_weak] using hs.2.1
    · rw [hf.1 _ (by simp), hf.1 _ (by simp), hf.1 _ (by simp)]; simpa [sp_weak] using hs.2.2.1 e he
    · have hp2 : p < s 4 0 := by simpa [sp_weak] using hp1
      rw [hp p hp2]
      simp [sp_weak, hp2]
  · rintro i M1 hi ⟨hf, hp⟩ ih
    have hM : M1.1 a 4 = nI (s 4 0) := by rw [hf.1 a (by simp)]; exact hs.1
    have c9 : ¬ M1.1 a 4 ≤ nI i := by rw [hM]; exact nI_ge hi (by omega)
    have hcl : (nI i).toNatClampNeg = i := nI_clamp (by omega)
    have hg : M1.1 (a + 4) (nI i).toNatClampNeg = nI (s 3 i) := by rw [hcl, hp i hi]; simp
    have h9 := ho.2.2.2.1 i
    refine sX9_weaken_2 hA (fun c => absurd c c9) (fun _ c => ?_) (fun _ _ => vp_in_nI (by omega) (by decide)) (fun _ c c2 => ?_) (fun _ c c2 => ?_)
    · rw [nb_bit hb (by omega)] at c
      rw [nI_1]
      refine ih _ ⟨hf, fun p hp1 => ?_⟩
      rw [hp p hp1]
      by_cases h1 : p = i
      · subst h1; simp [c]
      · simp [show p < i + 1 ↔ p < i by omega]
    · rw [nb_bit hb (by omega)] at c
      rw [hg, ← nI_0, nI_leI (by omega) (by omega)] at c2
      rw [nI_1]
      refine ih _ ⟨hf, fun p hp1 => ?_⟩
      rw [hp p hp1]
      by_cases h1 : p = i
      · subst h1; simp [show s 3 p = 0 by omega]
      · simp [show p < i + 1 ↔ p < i by omega]
    · rw [nb_bit hb (by omega)] at c
      rw [hg, ← nI_0, nI_leI (by omega) (by omega)] at c2
      rw [nI_1, hg, hcl]
      refine ih _ ⟨hf.trans (pg_fr.si (by simp)), fun p hp1 => ?_⟩
      rw [pg_si_at]
      by_cases h1 : p = i
      · subst h1
        rw [pk_us, show (1 : Int32) = nI 1 from rfl, pk_sub (by omega)]
        simp [ts_nf c]
      · rw [pk_un h1, hp p hp1]
        simp [show p < i + 1 ↔ p < i by omega]
end PGC
