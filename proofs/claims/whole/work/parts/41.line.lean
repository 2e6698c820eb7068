/-! the class: what Line and State answer without a change -/
theorem sp_lt8 {s : sp_N} {L : sp_N} {h c : Nat} (ho : sp_okS L s h) : s 2 c < 256 := by
  have h1 := (ho.2.2.1 c).2.2
  have h2 : 2 ^ s 4 0 ≤ 2 ^ 8 := Nat.pow_le_pow_right (by decide) ho.1
  omega
theorem sp_pc_small {n : Nat} (h : n < 256) : pg_bc (nI n) = nI (sp_pc n) := sp_pc_bc n (by omega)
section PGC
variable {S : pg_S} {Λ : pg_L} {d l a h : Nat} {M : pg_M} {L s : sp_N} {E : sp_E}
theorem rc_has {x : Int32} (hL : pg_isX5 Λ l) (hl : rc_L M l L E) (hk : sp_okL L E) : pg_Ev S Λ YX5_has d [.ref l, .int x] M (fun r M' => ∃ v, r = some (.int v) ∧ (v = b2i (decide (∃ c, c < L 4 0 ∧ x = nI c)) ∧ M' = M)) := by
  have hc6 := hk.1
  refine oX5_has (sX5_has_0 hL (fun c => ?_) (fun c c2 => ?_) (fun c c2 => ?_))
  · refine ⟨_, rfl, ?_, rfl⟩
    rw [decide_eq_false]
    · rfl
    · rintro ⟨k, hk1, rfl⟩
      exact absurd c (nI_pos (by omega))
  · refine ⟨_, rfl, ?_, rfl⟩
    rw [decide_eq_false]
    · rfl
    · rintro ⟨k, hk1, rfl⟩
      rw [hl.1] at c2
      exact absurd c2 (nI_ge hk1 (by omega))
  · refine ⟨_, rfl, ?_, rfl⟩
    rw [decide_eq_true]
    · rfl
    · obtain ⟨j, hj, rfl⟩ := nI_of c
      rw [hl.1, nI_leI (by omega) hj] at c2
      exact ⟨j, by omega, rfl⟩
theorem rc_pegsFor {c : Nat} (hc : c < L 4 0) (hL : pg_isX5 Λ l) (hl : rc_L M l L E) (hk : sp_okL L E) : pg_Ev S Λ YX5_pegsFor d [.ref l, .int (nI c)] M (fun r M' => ∃ v, r = some (.int v) ∧ (v = nI (sp_needs L c) ∧ M' = M)) := by
  have hc6 := hk.1
  have hk0 : M.1 (l + 2) (nI c).toNatClampNeg = nI (L 0 c) := by rw [nI_clamp (by omega)]; exact (hl.2.2.2.2.2.2.1 c hc).1
  have hk3 := (hk.2.1 c).1
  refine oX5_pegsFor (sX5_pegsFor_0 hL (vp_in_nI (by omega) (by decide)) (fun c1 => ?_) (fun c1 => ?_))
  · rw [hk0, show (1 : Int32) = nI 1 from rfl, nI_eq (by omega) (by omega)] at c1
    exact ⟨_, rfl, by simp only [sp_needs, if_neg c1]; rfl, rfl⟩
  · rw [hk0, show (1 : Int32) = nI 1 from rfl, nI_eq (by omega) (by omega)] at c1
    exact ⟨_, rfl, by simp only [sp_needs, if_pos c1]; rfl, rfl⟩
theorem pg_fm_nI {x y : Nat} (hx : x < 2 ^ 31) (h0 : 0 < y) (hy : y < 2 ^ 31) : pg_fm (nI x) (nI y) = nI (x % y) := by
  have h1 : 0 ≤ (nI x ^^^ nI y) := by
    rw [fb_xorI]
    exact nI_pos' (Nat.xor_lt_two_pow hx hy)
  unfold pg_fm
  rw [if_pos h1]
  exact pk_rem hx h0 hy
theorem rc_windAt {k : Nat} (hkk : k < 2 ^ 31) (hL : pg_isX5 Λ l) (hl : rc_L M l L E) (hk : sp_okL L E) : pg_Ev S Λ YX5_windAt (d + 1) [.ref l, .int (nI k)] M (fun r M' => ∃ v, r = some (.int v) ∧ (v = nI (sp_wind L k) ∧ M' = M)) := by
  have hw := hk.2.2.2.2.1
  have e1 : M.1 l 12 = nI (L 4 3) := hl.2.2.1
  have hfm : pg_fm (nI k) (M.1 l 12) = nI (k % L 4 3) := by rw [e1]; exact pg_fm_nI hkk (by omega) (by omega)
  have hmod : k % L 4 3 < L 4 3 := Nat.mod_lt _ (by omega)
  refine oX5_windAt (sX5_windAt_0 hL (fun _ => by rw [e1]; exact nI_ne0 (by omega) (by omega)) (fun _ => by rw [hfm]; exact vp_in_nI (by omega) (by decide)) (fun _ => ?_) (fun c => ?_))
  · refine ⟨_, rfl, ?_, rfl⟩
    rw [hfm, nI_clamp (by omega)]
    exact hl.2.2.2.2.2.2.2.2.2.1 _ hmod
  · rw [e1, show (1 : Int32) = nI 1 from rfl, nI_leI (by omega) (by omega)] at c
    omega
theorem rc_massOf {c wet : Nat} (hc : c < L 4 0) (hL : pg_isX5 Λ l) (hl : rc_L M l L E) (hk : sp_okL L E) : pg_Ev S Λ YX5_massOf d [.ref l, .int (nI c), .int (nI wet)] M (fun r M' => ∃ v, r = some (.int v) ∧ (v = nI (sp_mass L c wet) ∧ M' = M)) := by
  have hc6 := hk.1
  have hk0 : M.1 (l + 2) (nI c).toNatClampNeg = nI (L 0 c) := by rw [nI_clamp (by omega)]; exact (hl.2.2.2.2.2.2.1 c hc).1
  have hw0 : M.1 (l + 4) (nI c).toNatClampNeg = nI (L 2 c) := by rw [nI_clamp (by omega)]; exact (hl.2.2.2.2.2.2.1 c hc).2.2.1
  have hk3 := (hk.2.1 c).1
  refine oX5_massOf (sX5_massOf_0 hL (vp_in_nI (by omega) (by decide)) (fun c1 => ?_) (fun c1 => ?_))
  · rw [hk0, show (3 : Int32) = nI 3 from rfl, nI_eq (by omega) (by omega)] at c1
    exact ⟨_, rfl, by rw [hw0, nI_add]; simp only [sp_mass, if_neg c1], rfl⟩
  · rw [hk0, show (3 : Int32) = nI 3 from rfl, nI_eq (by omega) (by omega)] at c1
    exact ⟨_, rfl, by rw [hw0, show (2 : Int32) = nI 2 from rfl, pk_mul, nI_add]; simp only [sp_mass, if_pos c1], rfl⟩
theorem rc_pullOn {c wet wind : Nat} (hc : c < L 4 0) (hL : pg_isX5 Λ l) (hl : rc_L M l L E) (hk : sp_okL L E) : pg_Ev S Λ YX5_pullOn (d + 2) [.ref l, .int (nI c), .int (nI wet), .int (nI wind)] M (fun r M' => ∃ v, r = some (.int v) ∧ (v = nI (sp_pull L E c wet wind) ∧ pg_fr [l + 11] M M')) := by
  have hc6 := hk.1
  have hcl : (nI c).toNatClampNeg = c := nI_clamp (by omega)
  refine oX5_pullOn (sX5_pullOn_0 (Q0 := fun v M' => v = nI (sp_mass L c wet) ∧ M' = M) (Q1 := fun v M' => v = sp_val (E 0) (nI wind) (nI (sp_mass L c wet)) (nI (L 1 c)) ∧ pg_fr [l + 11] M M') hL (rc_massOf hc hL hl hk) (fun _ _ _ => vp_in_nI (by omega) (by decide)) ?_ ?_ ?_)
  · rintro x1 M1 ⟨rfl, rfl⟩
    rw [hcl, (hl.2.2.2.2.2.2.1 c hc).2.1]
    exact rc_value hL.r8 hl.2.2.2.2.2.2.2.2.2.2.1 hk.2.2.2.2.2.2.2.2.1
  · rintro x1 M1 ⟨rfl, rfl⟩ x2 M2 ⟨rfl, hf⟩ c1
    rw [hf.1 _ (by simp), hcl, (hl.2.2.2.2.2.2.1 c hc).1, show (2 : Int32) = nI 2 from rfl, nI_eq (by have := (hk.2.1 c).1; omega) (by omega)] at c1
    refine ⟨_, rfl, ?_, hf⟩
    rw [show (99 : Int32) = nI 99 from rfl, sp_cut_eq 99 _ (by decide)]
    simp only [sp_pull, if_neg c1]
  · rintro x1 M1 ⟨rfl, rfl⟩ x2 M2 ⟨rfl, hf⟩ c1
    rw [hf.1 _ (by simp), hcl, (hl.2.2.2.2.2.2.1 c hc).1, show (2 : Int32) = nI 2 from rfl, nI_eq (by have := (hk.2.1 c).1; omega) (by omega)] at c1
    refine ⟨_, rfl, ?_, hf⟩
    rw [show (99 : Int32) = nI 99 from rfl, sp_cut_eq 99 _ (by decide), show (2 : Int32) = nI 2 from rfl, pk_mul]
    simp only [sp_pull, if_pos c1]
theorem rc_wetAfter {c wet wind : Nat} (hc : c < L 4 0) (hwet : wet < 2 ^ 30) (hL : pg_isX5 Λ l) (hl : rc_L M l L E) (hk : sp_okL L E) : pg_Ev S Λ YX5_wetAfter (d + 2) [.ref l, .int (nI c), .int (nI wet), .int (nI wind)] M (fun r M' => ∃ v, r = some (.int v) ∧ (v = nI (sp_dry L E c wet wind) ∧ pg_fr [l + 14] M M')) := by
  have hc6 := hk.1
  have hcl : (nI c).toNatClampNeg = c := nI_clamp (by omega)
  refine oX5_wetAfter (sX5_wetAfter_0 (Q0 := fun v M' => v = nI (sp_mass L c wet) ∧ M' = M) (Q1 := fun v M' => v = sp_val (E 1) (nI wind) (nI (sp_mass L c wet)) (nI (L 1 c)) ∧ pg_fr [l + 14] M M') hL (rc_massOf hc hL hl hk) (fun _ _ _ => vp_in_nI (by omega) (by decide)) ?_ ?_)
  · rintro x1 M1 ⟨rfl, rfl⟩
    rw [hcl, (hl.2.2.2.2.2.2.1 c hc).2.1]
    exact rc_value hL.r9 hl.2.2.2.2.2.2.2.2.2.2.2 hk.2.2.2.2.2.2.2.2.2
  · rintro x1 M1 ⟨rfl, rfl⟩ x2 M2 ⟨rfl, hf⟩
    refine ⟨_, rfl, ?_, hf⟩
    rw [show (9 : Int32) = nI 9 from rfl, sp_cut_eq 9 _ (by decide)]
    have hle := sp_cut_le 9 (sp_val (E 1) (nI wind) (nI (sp_mass L c wet)) (nI (L 1 c))) (by decide)
    unfold sp_dry
    generalize sp_cut 9 (sp_val (E 1) (nI wind) (nI (sp_mass L c wet)) (nI (L 1 c))) = z at hle ⊢
    unfold pg_max
    by_cases h1 : z ≤ wet
    · rw [pk_sub h1]
      by_cases h2 : wet - z = 0
      · rw [h2, nI_0]; rfl
      · have : (0 : Int32) < nI (wet - z) := by rw [← nI_0, nI_ltI (by omega) (by omega)]; omega
        rw [if_pos this]
    · have : ¬ (0 : Int32) < nI wet - nI z := by
        have := pk_sneg (a := wet) (b := z) (by omega) (by omega)
        rw [fa_lt] at this ⊢
        omega
      rw [if_neg this, show wet - z = 0 by omega, nI_0]
theorem rc_worthOf {set : Nat} (hset : set < 2 ^ 31) (hL : pg_isX5 Λ l) (hl : rc_L M l L E) (hk : sp_okL L E) : pg_Ev S Λ YX5_worthOf d [.ref l, .int (nI set)] M (fun r M' => ∃ v, r = some (.int v) ∧ (v = nI (sp_worth L set) ∧ M' = M)) := by
  have hc6 := hk.1
  refine oX5_worthOf (sX5_worthOf_0 ?_)
  refine pg_loop (fun i (v : Int32) => pg_At S Λ YX5_worthOf d 4 [(0, .ref l), (1, .int (nI set)), (2, .int v), (3, .int (nI i))] [] M _) (fun i v => v = nI (fb_sm (fun c => if set.testBit c then L 3 c else 0) i)) (L 4 0) ?_ ?_ 0 0 (Nat.zero_le _) rfl
  · rintro v rfl
    refine sX5_worthOf_4 hL (fun _ => ⟨_, rfl, rfl, rfl⟩) (fun c => absurd ?_ c) (fun c => absurd ?_ c) (fun c => absurd ?_ c) <;> rw [hl.1] <;> exact nI_le (Nat.le_refl _) (by omega)
  · rintro i v hi rfl ih
    have c9 : ¬ M.1 l 10 ≤ nI i := by rw [hl.1]; exact nI_ge hi (by omega)
    refine sX5_worthOf_4 hL (fun c => absurd c c9) (fun _ c => ?_) (fun _ _ => vp_in_nI (by omega) (by decide)) (fun _ c => ?_)
    · rw [nb_bit hset (by omega)] at c
      rw [nI_1]
      exact ih _ (by simp [fb_sm_succ, c])
    · rw [nb_bit hset (by omega)] at c
      rw [nI_1, nI_clamp (by omega), (hl.2.2.2.2.2.2.1 i hi).2.2.2, nI_add]
      exact ih _ (by simp [fb_sm_succ, c])
theorem rc_isLaw {c : Nat} (hc : c < L 4 0) (hA : pg_isX9 Λ a) (hL : pg_isX5 Λ l) (hs : rc_S M a s) (hl : rc_L M l L E) (hk : sp_okL L E) (ho : sp_okS L s h) : pg_Ev S Λ YX9_isLaw (d + 1) [.ref a, .ref l, .int (nI c)] M (fun r M' => ∃ v, r = some (.int v) ∧ (v = b2i (sp_law L s c) ∧ M' = M)) := by
  have hc6 := hk.1
  have hcl : (nI c).toNatClampNeg = c := nI_clamp (by omega)
  have hh := hs.2.2.1 c (by omega)
  have hb : pg_bc (M.1 (a + 3) (nI c).toNatClampNeg) = nI (sp_pc (s 2 c)) := by rw [hcl, hh.2.2]; exact sp_pc_small (sp_lt8 ho)
  have hp := sp_pc_le (s 2 c)
  have hn : sp_needs L c ≤ 4 := by unfold sp_needs; split <;> omega
  have h9 := (ho.2.2.1 c).2.1
  refine oX9_isLaw (sX9_isLaw_0 (Q0 := fun v M' => v = nI (sp_needs L c) ∧ M' = M) hA hL (vp_in_nI (by omega) (by decide)) (rc_pegsFor hc hL hl hk) ?_ ?_ ?_)
  · rintro x1 M1 ⟨rfl, rfl⟩ c1
    rw [hb, nI_eq (by omega) (by omega)] at c1
    exact ⟨_, rfl, by simp [sp_law, c1, b2i], rfl⟩
  · rintro x1 M1 ⟨rfl, rfl⟩ c1 c2
    rw [hcl, hh.2.1, show (3 : Int32) = nI 3 from rfl, nI_leI (by omega) (by omega)] at c2
    exact ⟨_, rfl, by simp [sp_law, show ¬ s 1 c < 3 by omega, b2i], rfl⟩
  · rintro x1 M1 ⟨rfl, rfl⟩ c1 c2
    rw [hb, nI_eq (by omega) (by omega)] at c1
    rw [hcl, hh.2.1, show (3 : Int32) = nI 3 from rfl, nI_leI (by omega) (by omega)] at c2
    exact ⟨_, rfl, by simp [sp_law, c1, show s 1 c < 3 by omega, b2i], rfl⟩
theorem rc_isTurned {c : Nat} (hc : c < 6) (hA : pg_isX9 Λ a) (hs : rc_S M a s) (ho : sp_okS L s h) : pg_Ev S Λ YX9_isTurned (d + 1) [.ref a, .int (nI c)] M (fun r M' => ∃ v, r = some (.int v) ∧ (v = b2i (sp_turn s c) ∧ M' = M)) := by
  have hcl : (nI c).toNatClampNeg = c := nI_clamp (by omega)
  have hh := hs.2.2.1 c hc
  have hb : pg_bc (M.1 (a + 3) (nI c).toNatClampNeg) = nI (sp_pc (s 2 c)) := by rw [hcl, hh.2.2]; exact sp_pc_small (sp_lt8 ho)
  have hp := sp_pc_le (s 2 c)
  refine oX9_isTurned (sX9_isTurned_0 hA (vp_in_nI (by omega) (by decide)) (fun c1 => ?_) (fun c1 => ?_))
  · rw [hb, show (1 : Int32) = nI 1 from rfl, nI_eq (by omega) (by omega)] at c1
    exact ⟨_, rfl, by simp [sp_turn, c1, b2i], rfl⟩
  · rw [hb, show (1 : Int32) = nI 1 from rfl, nI_eq (by omega) (by omega)] at c1
    exact ⟨_, rfl, by simp [sp_turn, c1, b2i], rfl⟩
theorem rc_lawBits (hA : pg_isX9 Λ a) (hL : pg_isX5 Λ l) (hs : rc_S M a s) (hl : rc_L M l L E) (hk : sp_okL L E) (ho : sp_okS L s h) : pg_Ev S Λ YX9_lawBits (d + 2) [.ref a, .ref l] M (fun r M' => ∃ v, r = some (.int v) ∧ (v = nI (sp_laws L s) ∧ M' = M)) := by
  have hc6 := hk.1
  refine oX9_lawBits (sX9_lawBits_0 ?_)
  refine pg_loop (fun i (v : Int32) => pg_At S Λ YX9_lawBits (d + 2) 4 [(0, .ref a), (1, .ref l), (2, .int v), (3, .int (nI i))] [] M _) (fun i v => v = nI (sp_mk (sp_law L s) i)) (L 4 0) ?_ ?_ 0 0 (Nat.zero_le _) rfl
  · rintro v rfl
    have c9 : M.1 l 10 ≤ nI (L 4 0) := by rw [hl.1]; exact nI_le (Nat.le_refl _) (by omega)
    exact sX9_lawBits_4 (Q0 := fun _ _ => True) hL hA (fun _ => ⟨_, rfl, rfl, rfl⟩) (fun c => absurd c9 c) (fun c => absurd c9 c) (fun c => absurd c9 c)
  · rintro i v hi rfl ih
    have c9 : ¬ M.1 l 10 ≤ nI i := by rw [hl.1]; exact nI_ge hi (by omega)
    refine sX9_lawBits_4 (Q0 := fun v M' => v = b2i (sp_law L s i) ∧ M' = M) hL hA (fun c => absurd c c9) (fun _ => rc_isLaw hi hA hL hs hl hk ho) ?_ ?_
    · rintro _ x1 M1 ⟨rfl, rfl⟩ c
      rw [nI_1]
      exact ih _ (by simp [sp_mk, b2i_0.mp c])
    · rintro _ x1 M1 ⟨rfl, rfl⟩ c
      rw [nI_1, nb_set (by omega)]
      exact ih _ (by simp [sp_mk, ts_nf (fun q => c (b2i_0.mpr q))])
theorem rc_turnedBits (hA : pg_isX9 Λ a) (hL : pg_isX5 Λ l) (hs : rc_S M a s) (hl : rc_L M l L E) (hk : sp_okL L E) (ho : sp_okS L s h) : pg_Ev S Λ YX9_turnedBits (d + 2) [.ref a, .ref l] M (fun r M' => ∃ v, r = some (.int v) ∧ (v = nI (sp_turns L s) ∧ M' = M)) := by
  have hc6 := hk.1
  refine oX9_turnedBits (sX9_turnedBits_0 ?_)
  refine pg_loop (fun i (v : Int32) => pg_At S Λ YX9_turnedBits (d + 2) 4 [(0, .ref a), (1, .ref l), (2, .int v), (3, .int (nI i))] [] M _) (fun i v => v = nI (sp_mk (sp_turn s) i)) (L 4 0) ?_ ?_ 0 0 (Nat.zero_le _) rfl
  · rintro v rfl
    have c9 : M.1 l 10 ≤ nI (L 4 0) := by rw [hl.1]; exact nI_le (Nat.le_refl _) (by omega)
    exact sX9_turnedBits_4 (Q0 := fun _ _ => True) hL hA (fun _ => ⟨_, rfl, rfl, rfl⟩) (fun c => absurd c9 c) (fun c => absurd c9 c) (fun c => absurd c9 c)
  · rintro i v hi rfl ih
    have c9 : ¬ M.1 l 10 ≤ nI i := by rw [hl.1]; exact nI_ge hi (by omega)
    refine sX9_turnedBits_4 (Q0 := fun v M' => v = b2i (sp_turn s i) ∧ M' = M) hL hA (fun c => absurd c c9) (fun _ => rc_isTurned (by omega) hA hs ho) ?_ ?_
    · rintro _ x1 M1 ⟨rfl, rfl⟩ c
      rw [nI_1]
      exact ih _ (by simp [sp_mk, b2i_0.mp c])
    · rintro _ x1 M1 ⟨rfl, rfl⟩ c
      rw [nI_1, nb_set (by omega)]
      exact ih _ (by simp [sp_mk, ts_nf (fun q => c (b2i_0.mpr q))])
theorem sp_laws_lt (hk : sp_okL L E) : sp_laws L s < 64 := by
  have h1 := sp_mk_lt (sp_law L s) (L 4 0)
  have h2 : 2 ^ L 4 0 ≤ 2 ^ 6 := Nat.pow_le_pow_right (by decide) hk.1
  unfold sp_laws
  omega
theorem rc_worthOfLaws (hA : pg_isX9 Λ a) (hL : pg_isX5 Λ l) (hs : rc_S M a s) (hl : rc_L M l L E) (hk : sp_okL L E) (ho : sp_okS L s h) : pg_Ev S Λ YX9_worthOfLaws (d + 3) [.ref a, .ref l] M (fun r M' => ∃ v, r = some (.int v) ∧ (v = nI (sp_worth L (sp_laws L s)) ∧ M' = M)) := by
  refine oX9_worthOfLaws (sX9_worthOfLaws_0 (Q0 := fun v M' => v = nI (sp_laws L s) ∧ M' = M) (Q1 := fun v M' => v = nI (sp_worth L (sp_laws L s)) ∧ M' = M) hA hL (rc_lawBits hA hL hs hl hk ho) ?_ ?_)
  · rintro x1 M1 ⟨rfl, rfl⟩
    exact rc_worthOf (by have := sp_laws_lt (s := s) hk; omega) hL hl hk
  · rintro x1 M1 ⟨rfl, rfl⟩ x2 M2 ⟨rfl, rfl⟩
    exact ⟨_, rfl, rfl, rfl⟩
theorem rc_roomBy {c many : Nat} (hc : c < L 4 0) (hm : many < 2 ^ 31) (hL : pg_isX5 Λ l) (hl : rc_L M l L E) (hk : sp_okL L E) : pg_Ev S Λ YX9_roomBy d [.ref l, .int (nI c), .int (nI many)] M (fun r M' => ∃ v, r = some (.int v) ∧ (v = nI (sp_roomBy L c many) ∧ M' = M)) := by
  have hc6 := hk.1
  have hw : M.1 (l + 3) (nI c).toNatClampNeg = nI (L 1 c) := by rw [nI_clamp (by omega)]; exact (hl.2.2.2.2.2.2.1 c hc).2.1
  have h20 := (hk.2.1 c).2.1
  refine oX9_roomBy (sX9_roomBy_0 hL (fun _ _ => vp_in_nI (by omega) (by decide)) (fun c1 c2 => ?_) (fun _ _ => vp_in_nI (by omega) (by decide)) (fun c1 c2 => ?_) (fun c1 => ?_))
  · rw [← nI_0, nI_eq hm (by omega)] at c1
    rw [show (1 : Int32) = nI 1 from rfl, nI_eq hm (by omega)] at c2
    exact ⟨_, rfl, by rw [hw]; simp [sp_roomBy, c1, c2], rfl⟩
  · rw [← nI_0, nI_eq hm (by omega)] at c1
    rw [show (1 : Int32) = nI 1 from rfl, nI_eq hm (by omega)] at c2
    refine ⟨_, rfl, ?_, rfl⟩
    rw [hw, show (2 : Int32) = nI 2 from rfl, pk_div (by omega) (by omega) (by omega), nI_1]
    simp [sp_roomBy, c2]
  · rw [← nI_0, nI_eq hm (by omega)] at c1
    exact ⟨_, rfl, by simp [sp_roomBy, c1, nI_0], rfl⟩
theorem rc_roomOf {c : Nat} (hc : c < L 4 0) (hA : pg_isX9 Λ a) (hL : pg_isX5 Λ l) (hs : rc_S M a s) (hl : rc_L M l L E) (hk : sp_okL L E) (ho : sp_okS L s h) : pg_Ev S Λ YX9_roomOf (d + 1) [.ref a, .ref l, .int (nI c)] M (fun r M' => ∃ v, r = some (.int v) ∧ (v = nI (sp_roomBy L c (sp_pc (s 2 c))) ∧ M' = M)) := by
  have hc6 := hk.1
  have hb : pg_bc (M.1 (a + 3) (nI c).toNatClampNeg) = nI (sp_pc (s 2 c)) := by rw [nI_clamp (by omega), (hs.2.2.1 c (by omega)).2.2]; exact sp_pc_small (sp_lt8 ho)
  refine oX9_roomOf (sX9_roomOf_0 (Q0 := fun v M' => v = nI (sp_roomBy L c (sp_pc (s 2 c))) ∧ M' = M) hA (vp_in_nI (by omega) (by decide)) ?_ ?_)
  · rw [hb]
    exact rc_roomBy hc (by have := sp_pc_le (s 2 c); omega) hL hl hk
  · rintro x1 M1 ⟨rfl, rfl⟩
    exact ⟨_, rfl, rfl, rfl⟩
theorem rc_roomLeft (hA : pg_isX9 Λ a) (hL : pg_isX5 Λ l) (hs : rc_S M a s) (hl : rc_L M l L E) (hk : sp_okL L E) (ho : sp_okS L s h) : pg_Ev S Λ YX9_roomLeft (d + 2) [.ref a, .ref l] M (fun r M' => ∃ v, r = some (.int v) ∧ (v = sp_left L s ∧ M' = M)) := by
  have hc6 := hk.1
  refine oX9_roomLeft (sX9_roomLeft_0 hL ?_)
  rw [hl.2.2.2.1]
  refine pg_loop (fun i (v : Int32) => pg_At S Λ YX9_roomLeft (d + 2) 7 [(0, .ref a), (1, .ref l), (2, .int v), (3, .int (nI i))] [] M _) (fun i v => v = nI (L 4 1) - nI (fb_sm (fun c => sp_roomBy L c (sp_pc (s 2 c))) i)) (L 4 0) ?_ ?_ 0 _ (Nat.zero_le _) ?_
  · rintro v rfl
    have c9 : M.1 l 10 ≤ nI (L 4 0) := by rw [hl.1]; exact nI_le (Nat.le_refl _) (by omega)
    exact sX9_roomLeft_7 (Q0 := fun _ _ => True) hL hA (fun _ => ⟨_, rfl, rfl, rfl⟩) (fun c => absurd c9 c) (fun c => absurd c9 c)
  · rintro i v hi rfl ih
    have c9 : ¬ M.1 l 10 ≤ nI i := by rw [hl.1]; exact nI_ge hi (by omega)
    refine sX9_roomLeft_7 (Q0 := fun v M' => v = nI (sp_roomBy L i (sp_pc (s 2 i))) ∧ M' = M) hL hA (fun c => absurd c c9) (fun _ => rc_roomOf hi hA hL hs hl hk ho) ?_
    rintro _ x1 M1 ⟨rfl, rfl⟩
    rw [nI_1]
    refine ih _ ?_
    rw [fb_sm_succ, ← nI_add]
    generalize nI (L 4 1) = x
    generalize nI (fb_sm _ i) = y
    generalize nI (sp_roomBy _ _ _) = z
    grind
  · show _ = nI (L 4 1) - nI 0
    rw [nI_0]
    simp
end PGC
