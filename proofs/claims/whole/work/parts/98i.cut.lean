/-! TOKENS: the reference cuts the tape -/
section PGR
variable {S : pg_S} {Λ : pg_L} {d n9 p9 : Nat} {M : pg_M} {tp : List Nat} {P : Option Value → pg_M → Prop}
theorem rm_isLetter {c9 : Nat} (hc : c9 < 2 ^ 31) : pg_Ev S Λ YX11_isLetter d [.int (nI c9)] M (fun r M' => ∃ v, r = some (.int v) ∧ (v = b2i (tk_L c9) ∧ M' = M)) := by
  refine oX11_isLetter (sX11_isLetter_0 (fun q9 => ⟨_, rfl, ?_, rfl⟩) (fun q9 q8 => ⟨_, rfl, ?_, rfl⟩) (fun q9 q8 => ⟨_, rfl, ?_, rfl⟩))
  all_goals rw [show (97 : Int32) = nI 97 from rfl, nI_ltI (by omega) (by omega)] at q9
  · unfold tk_L; rw [decide_eq_false (by omega)]; rfl
  · rw [show (122 : Int32) = nI 122 from rfl, nI_ltI (by omega) (by omega)] at q8
    unfold tk_L; rw [decide_eq_false (show ¬ c9 ≤ 122 by omega), Bool.and_false]; rfl
  · rw [show (122 : Int32) = nI 122 from rfl, nI_ltI (by omega) (by omega)] at q8
    unfold tk_L; rw [decide_eq_true (show c9 ≤ 122 by omega), decide_eq_true (show 97 ≤ c9 by omega)]; rfl
theorem rm_isDigit {c9 : Nat} (hc : c9 < 2 ^ 31) : pg_Ev S Λ YX11_isDigit d [.int (nI c9)] M (fun r M' => ∃ v, r = some (.int v) ∧ (v = b2i (tk_D c9) ∧ M' = M)) := by
  refine oX11_isDigit (sX11_isDigit_0 (fun q9 => ⟨_, rfl, ?_, rfl⟩) (fun q9 q8 => ⟨_, rfl, ?_, rfl⟩) (fun q9 q8 => ⟨_, rfl, ?_, rfl⟩))
  all_goals rw [show (48 : Int32) = nI 48 from rfl, nI_ltI (by omega) (by omega)] at q9
  · unfold tk_D; rw [decide_eq_false (by omega)]; rfl
  · rw [show (57 : Int32) = nI 57 from rfl, nI_ltI (by omega) (by omega)] at q8
    unfold tk_D; rw [decide_eq_false (show ¬ c9 ≤ 57 by omega), Bool.and_false]; rfl
  · rw [show (57 : Int32) = nI 57 from rfl, nI_ltI (by omega) (by omega)] at q8
    unfold tk_D; rw [decide_eq_true (show c9 ≤ 57 by omega), decide_eq_true (show 48 ≤ c9 by omega)]; rfl
theorem rm_rank {c9 : Nat} (hl : tk_L c9 = true) : pg_Ev S Λ YX11_rank (d + 1) [.int (nI c9)] M (fun r M' => ∃ v, r = some (.int v) ∧ (v = nI (c9 - 96) ∧ M' = M)) := by
  have h9 : 97 ≤ c9 ∧ c9 ≤ 122 := by unfold tk_L at hl; simpa using hl
  refine oX11_rank (sX11_rank_0 (Q0 := fun v M' => v = b2i (tk_L c9) ∧ M' = M) (rm_isLetter (by omega)) ?_ ?_)
  · rintro v9 Mq1 ⟨rfl, e9⟩ q9; rw [hl] at q9; exact absurd q9 (by decide)
  · rintro v9 Mq1 ⟨rfl, e9⟩ q9
    refine ⟨_, rfl, ?_, e9⟩
    rw [show (96 : Int32) = nI 96 from rfl, pk_sub (by omega)]
theorem rm_isSignOf {c9 : Nat} (hc : c9 < 128) : pg_Ev S Λ YX11_isSignOf d [.int (nI c9)] M (fun r M' => ∃ v, r = some (.int v) ∧ (v = b2i (tk_G c9) ∧ M' = M)) := by
  have ie : ∀ n9 : Nat, n9 < 2 ^ 31 → (nI c9 = nI n9 ↔ c9 = n9) := fun n9 hn => nI_eq (by omega) hn
  have e40 : nI c9 = 40 ↔ c9 = 40 := ie 40 (by decide)
  have e41 : nI c9 = 41 ↔ c9 = 41 := ie 41 (by decide)
  have e59 : nI c9 = 59 ↔ c9 = 59 := ie 59 (by decide)
  have e61 : nI c9 = 61 ↔ c9 = 61 := ie 61 (by decide)
  have e60 : nI c9 = 60 ↔ c9 = 60 := ie 60 (by decide)
  have e43 : nI c9 = 43 ↔ c9 = 43 := ie 43 (by decide)
  have e45 : nI c9 = 45 ↔ c9 = 45 := ie 45 (by decide)
  have e42 : nI c9 = 42 ↔ c9 = 42 := ie 42 (by decide)
  have yes : (c9 = 40 ∨ c9 = 41 ∨ c9 = 59 ∨ c9 = 61 ∨ c9 = 60 ∨ c9 = 43 ∨ c9 = 45 ∨ c9 = 42) → ∃ v, some (Value.int 1) = some (Value.int v) ∧ (v = b2i (tk_G c9) ∧ M = M) := fun z9 => by
    refine ⟨1, rfl, ?_, rfl⟩
    have : tk_G c9 = true := by
      unfold tk_G
      simp only [Bool.or_eq_true, decide_eq_true_eq]
      omega
    rw [this]; rfl
  refine oX11_isSignOf (sX11_isSignOf_0 (fun q => yes (by rw [e40] at q; omega)) (fun _ q => yes (by rw [e41] at q; omega)) (fun _ _ q => yes (by rw [e59] at q; omega)) (fun _ _ _ q => yes (by rw [e61] at q; omega)) (fun _ _ _ _ q => yes (by rw [e60] at q; omega)) (fun _ _ _ _ _ q => yes (by rw [e43] at q; omega)) (fun _ _ _ _ _ _ q => yes (by rw [e45] at q; omega)) (fun a1 a2 a3 a4 a5 a6 a7 a8 => ⟨_, rfl, ?_, rfl⟩) (fun _ _ _ _ _ _ _ q => yes (by rw [e42] at q; omega)))
  rw [e40] at a1
  rw [e41] at a2
  rw [e59] at a3
  rw [e61] at a4
  rw [e60] at a5
  rw [e43] at a6
  rw [e45] at a7
  rw [e42] at a8
  have : tk_G c9 = false := ts_nt (fun z9 => by
    unfold tk_G at z9
    simp only [Bool.or_eq_true, decide_eq_true_eq] at z9
    omega)
  rw [this]; rfl
theorem rm_cut159 (hn : n9 ≤ 1000) (hX : pg_isX11 Λ) (hk : tk_ok tp) (hp : p9 ≤ tp.length) (h3 : M.1 207 3 = nI tp.length) (h8 : ∀ (j9 c9 : Nat), tp[j9]? = some c9 → M.1 208 j9 = nI c9) (kk : ∀ (s9 : Int32) (v9 : Int64), s9 = (if (tk_run tk_D tp p9).length ≤ 4 then 2 else 4) → v9 = lN (sp_w 10 (((tk_run tk_D tp p9).take (min (tk_run tk_D tp p9).length 4)).map (· - 48))) → pg_At S Λ YX11_cutAll (d + 1) 17 [(0, .ref 207), (1, .int (nI n9 + 1)), (2, .int (nI (p9 + (tk_run tk_D tp p9).length)))] [] (pg_sj (pg_si M 209 n9 s9) 211 n9 v9) P) : pg_At S Λ YX11_cutAll (d + 1) 159 [(0, .ref 207), (1, .int (nI n9)), (2, .int (nI (p9 + 0))), (4, .int (nI p9)), (5, .long (lN 0))] [] M P := by
  have hlen := hk.1
  have l2 := tk_run_le (p := tk_D) hp
  have hnl : (nI n9).toNatClampNeg = n9 := nI_clamp (by omega)
  refine pg_loop (fun i9 (nq : pg_M) => pg_At S Λ YX11_cutAll (d + 1) 159 [(0, .ref 207), (1, .int (nI n9)), (2, .int (nI (p9 + i9))), (4, .int (nI p9)), (5, .long (lN (sp_w 10 (((tk_run tk_D tp p9).take (min i9 4)).map (· - 48)))))] [] nq P) (fun i9 nq => nq = M) (tk_run tk_D tp p9).length ?_ ?_ 0 M (Nat.zero_le _) rfl
  · rintro nq rfl
    have e4 : (nI (p9 + (tk_run tk_D tp p9).length) - nI p9 ≤ 4) ↔ (tk_run tk_D tp p9).length ≤ 4 := by
      rw [pk_sub (by omega), Nat.add_sub_cancel_left, show (4 : Int32) = nI 4 from rfl, nI_leI (by omega) (by omega)]
    have k1 : (tk_run tk_D tp p9).length ≤ 4 → pg_At S Λ YX11_cutAll (d + 1) 17 [(0, .ref 207), (1, .int (nI n9 + 1)), (2, .int (nI (p9 + (tk_run tk_D tp p9).length)))] [] (pg_sj (pg_si nq 209 (nI n9).toNatClampNeg 2) 211 (nI n9).toNatClampNeg (lN (sp_w 10 (((tk_run tk_D tp p9).take (min (tk_run tk_D tp p9).length 4)).map (· - 48))))) P := fun q9 => by
      rw [hnl]; exact kk _ _ (by rw [if_pos q9]) rfl
    have k2 : ¬ (tk_run tk_D tp p9).length ≤ 4 → pg_At S Λ YX11_cutAll (d + 1) 17 [(0, .ref 207), (1, .int (nI n9 + 1)), (2, .int (nI (p9 + (tk_run tk_D tp p9).length)))] [] (pg_sj (pg_si nq 209 (nI n9).toNatClampNeg 4) 211 (nI n9).toNatClampNeg (lN (sp_w 10 (((tk_run tk_D tp p9).take (min (tk_run tk_D tp p9).length 4)).map (· - 48))))) P := fun q9 => by
      rw [hnl]; exact kk _ _ (by rw [if_neg q9]) rfl
    have vn : vp_in (nI n9) 1002 := vp_in_nI (by omega) (by decide)
    refine sX11_cutAll_159 (Q0 := fun v M' => v = 0 ∧ M' = nq) hX (fun _ _ => vn) (fun _ q9 => k1 (e4.mp q9)) (fun _ _ => vn) (fun _ q9 => k2 (fun c => q9 (e4.mpr c))) ?_ ?_ (fun _ _ _ _ _ _ => vn) ?_ (fun _ _ _ _ _ _ => vn) ?_ ?_ ?_
    · intro q9
      rw [h3, nI_leI (by omega) (by omega)] at q9
      exact vp_in_nI (by omega) (by decide)
    · intro q9
      rw [h3, nI_leI (by omega) (by omega)] at q9
      obtain ⟨c9, hc⟩ := tk_get (show p9 + (tk_run tk_D tp p9).length < tp.length by omega)
      rw [nI_clamp (by omega), h8 _ _ hc]
      have hf := tk_run_out (p := tk_D) hc
      refine pg_Ev.imp ?_ (rm_isDigit (by have := hk.2 _ _ hc; omega))
      rintro r9 M9 ⟨v9, g1, g2, g3⟩
      exact ⟨v9, g1, by rw [g2, hf]; rfl, g3⟩
    · rintro _ v9 Mq1 ⟨_, e9⟩ _ q9; rw [e9]; exact k1 (e4.mp q9)
    · rintro _ v9 Mq1 ⟨_, e9⟩ _ q9; rw [e9]; exact k2 (fun c => q9 (e4.mpr c))
    · rintro _ v9 Mq1 ⟨z9, e9⟩ q9; exact absurd z9 q9
    · rintro _ v9 Mq1 ⟨z9, e9⟩ q9; exact absurd z9 q9
  · rintro i9 nq hi rfl ihq
    obtain ⟨c9, hc, hc2, hc3⟩ := tk_run_in (p := tk_D) (tp := tp) (b9 := p9) hi
    have hc8 := hk.2 _ _ hc
    have cq : ¬ nq.1 207 3 ≤ nI (p9 + i9) := by rw [h3]; exact nI_ge (by omega) (by omega)
    have hcl : (nI (p9 + i9)).toNatClampNeg = p9 + i9 := nI_clamp (by omega)
    have e4 : (4 ≤ nI (p9 + i9) - nI p9) ↔ 4 ≤ i9 := by
      rw [pk_sub (by omega), Nat.add_sub_cancel_left, show (4 : Int32) = nI 4 from rfl, nI_leI (by omega) (by omega)]
    refine sX11_cutAll_159 (Q0 := fun v M' => v = 1 ∧ M' = nq) hX (fun c => absurd c cq) (fun c => absurd c cq) (fun c => absurd c cq) (fun c => absurd c cq) (fun _ => vp_in_nI (by omega) (by decide)) (fun _ => ?_) ?_ ?_ ?_ ?_ ?_ ?_
    · rw [hcl, h8 _ _ hc]
      refine pg_Ev.imp ?_ (rm_isDigit (by omega))
      rintro r9 M9 ⟨v9, g1, g2, g3⟩
      exact ⟨v9, g1, by rw [g2, hc3]; rfl, g3⟩
    · rintro _ v9 Mq1 ⟨g1, _⟩ q9; rw [g1] at q9; exact absurd q9 (by decide)
    · rintro _ v9 Mq1 ⟨g1, _⟩ q9; rw [g1] at q9; exact absurd q9 (by decide)
    · rintro _ v9 Mq1 ⟨g1, _⟩ q9; rw [g1] at q9; exact absurd q9 (by decide)
    · rintro _ v9 Mq1 ⟨g1, _⟩ q9; rw [g1] at q9; exact absurd q9 (by decide)
    · rintro _ v9 Mq1 ⟨_, e9⟩ _ q9
      rw [e4] at q9
      have := ihq nq rfl
      rw [show min (i9 + 1) 4 = min i9 4 by omega] at this
      rw [e9, nI_1]; exact this
    · rintro _ v9 Mq1 ⟨_, e9⟩ _ q9
      rw [e4] at q9
      rw [e9, hcl, h8 _ _ hc, nI_1, nI_l (by omega)]
      have h48 : 48 ≤ c9 := by unfold tk_D at hc3; simp only [Bool.and_eq_true, decide_eq_true_eq] at hc3; exact hc3.1
      have := ihq nq rfl
      rw [show min (i9 + 1) 4 = i9 + 1 by omega, tk_w_take hc2] at this
      rw [show min i9 4 = i9 by omega, show (10 : Int64) = lN 10 from rfl, tk_lN_mul, tk_lN_add, show (48 : Int64) = lN 48 from rfl, lN_sub (by omega), Nat.add_sub_assoc h48]
      exact this
theorem rm_cut70 (hn : n9 ≤ 1000) (hX : pg_isX11 Λ) (hk : tk_ok tp) (hp : p9 ≤ tp.length) (h3 : M.1 207 3 = nI tp.length) (h8 : ∀ (j9 c9 : Nat), tp[j9]? = some c9 → M.1 208 j9 = nI c9) (kk : ∀ (s9 : Int32) (v9 : Int64), s9 = (if (tk_run tk_L tp p9).length ≤ 8 then 1 else 4) → v9 = lN (sp_w 37 (((tk_run tk_L tp p9).take (min (tk_run tk_L tp p9).length 8)).map (· - 96))) → pg_At S Λ YX11_cutAll (d + 2) 17 [(0, .ref 207), (1, .int (nI n9 + 1)), (2, .int (nI (p9 + (tk_run tk_L tp p9).length)))] [] (pg_sj (pg_si M 209 n9 s9) 211 n9 v9) P) : pg_At S Λ YX11_cutAll (d + 2) 70 [(0, .ref 207), (1, .int (nI n9)), (2, .int (nI (p9 + 0))), (4, .int (nI p9)), (5, .long (lN 0))] [] M P := by
  have hlen := hk.1
  have l2 := tk_run_le (p := tk_L) hp
  have hnl : (nI n9).toNatClampNeg = n9 := nI_clamp (by omega)
  refine pg_loop (fun i9 (nq : pg_M) => pg_At S Λ YX11_cutAll (d + 2) 70 [(0, .ref 207), (1, .int (nI n9)), (2, .int (nI (p9 + i9))), (4, .int (nI p9)), (5, .long (lN (sp_w 37 (((tk_run tk_L tp p9).take (min i9 8)).map (· - 96)))))] [] nq P) (fun i9 nq => nq = M) (tk_run tk_L tp p9).length ?_ ?_ 0 M (Nat.zero_le _) rfl
  · rintro nq rfl
    have e4 : (nI (p9 + (tk_run tk_L tp p9).length) - nI p9 ≤ 8) ↔ (tk_run tk_L tp p9).length ≤ 8 := by
      rw [pk_sub (by omega), Nat.add_sub_cancel_left, show (8 : Int32) = nI 8 from rfl, nI_leI (by omega) (by omega)]
    have k1 : (tk_run tk_L tp p9).length ≤ 8 → pg_At S Λ YX11_cutAll (d + 2) 17 [(0, .ref 207), (1, .int (nI n9 + 1)), (2, .int (nI (p9 + (tk_run tk_L tp p9).length)))] [] (pg_sj (pg_si nq 209 (nI n9).toNatClampNeg 1) 211 (nI n9).toNatClampNeg (lN (sp_w 37 (((tk_run tk_L tp p9).take (min (tk_run tk_L tp p9).length 8)).map (· - 96))))) P := fun q9 => by
      rw [hnl]; exact kk _ _ (by rw [if_pos q9]) rfl
    have k2 : ¬ (tk_run tk_L tp p9).length ≤ 8 → pg_At S Λ YX11_cutAll (d + 2) 17 [(0, .ref 207), (1, .int (nI n9 + 1)), (2, .int (nI (p9 + (tk_run tk_L tp p9).length)))] [] (pg_sj (pg_si nq 209 (nI n9).toNatClampNeg 4) 211 (nI n9).toNatClampNeg (lN (sp_w 37 (((tk_run tk_L tp p9).take (min (tk_run tk_L tp p9).length 8)).map (· - 96))))) P := fun q9 => by
      rw [hnl]; exact kk _ _ (by rw [if_neg q9]) rfl
    have vn : vp_in (nI n9) 1002 := vp_in_nI (by omega) (by decide)
    refine sX11_cutAll_70 (Q0 := fun v M' => v = 0 ∧ M' = nq) (Q1 := fun _ _ => True) hX (fun _ _ => vn) (fun _ q9 => k1 (e4.mp q9)) (fun _ _ => vn) (fun _ q9 => k2 (fun c => q9 (e4.mpr c))) ?_ ?_ (fun _ _ _ _ _ _ => vn) ?_ (fun _ _ _ _ _ _ => vn) ?_ ?_ ?_ ?_
    · intro q9
      rw [h3, nI_leI (by omega) (by omega)] at q9
      exact vp_in_nI (by omega) (by decide)
    · intro q9
      rw [h3, nI_leI (by omega) (by omega)] at q9
      obtain ⟨c9, hc⟩ := tk_get (show p9 + (tk_run tk_L tp p9).length < tp.length by omega)
      rw [nI_clamp (by omega), h8 _ _ hc]
      have hf := tk_run_out (p := tk_L) hc
      refine pg_Ev.imp ?_ (rm_isLetter (by have := hk.2 _ _ hc; omega))
      rintro r9 M9 ⟨v9, g1, g2, g3⟩
      exact ⟨v9, g1, by rw [g2, hf]; rfl, g3⟩
    · rintro _ v9 Mq1 ⟨_, e9⟩ _ q9; rw [e9]; exact k1 (e4.mp q9)
    · rintro _ v9 Mq1 ⟨_, e9⟩ _ q9; rw [e9]; exact k2 (fun c => q9 (e4.mpr c))
    · rintro _ v9 Mq1 ⟨z9, e9⟩ q9; exact absurd z9 q9
    · rintro _ v9 Mq1 ⟨z9, e9⟩ q9; exact absurd z9 q9
    · rintro _ v9 Mq1 ⟨z9, e9⟩ q9; exact absurd z9 q9
  · rintro i9 nq hi rfl ihq
    obtain ⟨c9, hc, hc2, hc3⟩ := tk_run_in (p := tk_L) (tp := tp) (b9 := p9) hi
    have hc8 := hk.2 _ _ hc
    have cq : ¬ nq.1 207 3 ≤ nI (p9 + i9) := by rw [h3]; exact nI_ge (by omega) (by omega)
    have hcl : (nI (p9 + i9)).toNatClampNeg = p9 + i9 := nI_clamp (by omega)
    have e4 : (8 ≤ nI (p9 + i9) - nI p9) ↔ 8 ≤ i9 := by
      rw [pk_sub (by omega), Nat.add_sub_cancel_left, show (8 : Int32) = nI 8 from rfl, nI_leI (by omega) (by omega)]
    refine sX11_cutAll_70 (Q0 := fun v M' => v = 1 ∧ M' = nq) (Q1 := fun v M' => v = nI (c9 - 96) ∧ M' = nq) hX (fun c => absurd c cq) (fun c => absurd c cq) (fun c => absurd c cq) (fun c => absurd c cq) (fun _ => vp_in_nI (by omega) (by decide)) (fun _ => ?_) ?_ ?_ ?_ ?_ ?_ ?_ ?_
    · rw [hcl, h8 _ _ hc]
      refine pg_Ev.imp ?_ (rm_isLetter (by omega))
      rintro r9 M9 ⟨v9, g1, g2, g3⟩
      exact ⟨v9, g1, by rw [g2, hc3]; rfl, g3⟩
    · rintro _ v9 Mq1 ⟨g1, _⟩ q9; rw [g1] at q9; exact absurd q9 (by decide)
    · rintro _ v9 Mq1 ⟨g1, _⟩ q9; rw [g1] at q9; exact absurd q9 (by decide)
    · rintro _ v9 Mq1 ⟨g1, _⟩ q9; rw [g1] at q9; exact absurd q9 (by decide)
    · rintro _ v9 Mq1 ⟨g1, _⟩ q9; rw [g1] at q9; exact absurd q9 (by decide)
    · rintro _ v9 Mq1 ⟨_, e9⟩ _ q9
      rw [e4] at q9
      have := ihq nq rfl
      rw [show min (i9 + 1) 8 = min i9 8 by omega] at this
      rw [e9, nI_1]; exact this
    · rintro _ v9 Mq1 ⟨_, e9⟩ _ q9
      rw [e9, hcl, h8 _ _ hc]
      exact rm_rank hc3
    · rintro _ v9 Mq1 ⟨_, e9⟩ _ q9 v8 Mq2 ⟨g1, g2⟩
      rw [e4] at q9
      rw [g1, g2, nI_1, nI_l (by omega)]
      have := ihq nq rfl
      rw [show min (i9 + 1) 8 = i9 + 1 by omega, tk_w_take hc2] at this
      rw [show min i9 8 = i9 by omega, show (37 : Int64) = lN 37 from rfl, tk_lN_mul, tk_lN_add]
      exact this
end PGR
