/-! fill: the class's choices, and what it holds of sets -/
theorem lg_cmp_0 (x9 : Int64) : lg_cmp x9 0 = 0 ↔ x9 = 0 := by
  unfold lg_cmp
  constructor
  · intro h9
    split at h9
    · exact absurd h9 (by decide)
    · split at h9
      · assumption
      · exact absurd h9 (by decide)
  · intro h9
    subst h9
    simp
theorem sp_log6 : ∀ x9, x9 < 64 → 0 < x9 → (31 : Int32) - pg_nlz (nI x9) = nI (Nat.log2 x9) ∧ Nat.log2 x9 < 6 ∧ x9.testBit (Nat.log2 x9) = true := fun x9 hx => co_dec (N := 64) (P := fun x9 => 0 < x9 → (31 : Int32) - pg_nlz (nI x9) = nI (Nat.log2 x9) ∧ Nat.log2 x9 < 6 ∧ x9.testBit (Nat.log2 x9) = true) (by decide +kernel) hx
theorem sp_c70 : fb_ct (fun b9 => decide (sp_pc b9 = 4)) 256 = 70 ∧ fb_ct (fun b9 => decide (sp_pc b9 = 2)) 256 = 28 := by decide +kernel
theorem sp_ct_out {P : Nat → Bool} {a9 : Nat} : ∀ b9, a9 ≤ b9 → (∀ j9, a9 ≤ j9 → j9 < b9 → P j9 = false) → fb_ct P b9 = fb_ct P a9 := by
  intro b9
  induction b9 with
  | zero => intro h9 _; rw [show a9 = 0 by omega]
  | succ b9 ih9 =>
    intro h9 hp
    by_cases e : a9 = b9 + 1
    · rw [e]
    · rw [fb_ct_succ, hp b9 (by omega) (by omega), ih9 (by omega) (fun j9 g1 g2 => hp j9 g1 (by omega))]; rfl
/-- the bit of a mask in the words of a set -/
def rc_hb (M : pg_M) (A9 k9 : Nat) : Bool := (M.2.1 159 (4 * A9 + k9 / 64)).toBitVec.getLsbD (k9 % 64)
/-- the choices of the cloths below n9 -/
def rc_cc (M : pg_M) (n9 : Nat) (ch9 : Nat → Nat → Bool) : Prop := ∀ c9, c9 < n9 → M.1 155 c9 = nI (fb_ct (ch9 c9) 256) ∧ fb_ct (ch9 c9) 256 ≤ 70 ∧ ∀ b9, b9 < 256 → ch9 c9 b9 = true → M.1 154 (70 * c9 + fb_ct (ch9 c9) b9) = nI b9
theorem rc_cc.fr {M M' : pg_M} {n9 : Nat} {ch9 : Nat → Nat → Bool} (hh : rc_cc M n9 ch9) (e1 : M'.1 154 = M.1 154) (e2 : M'.1 155 = M.1 155) : rc_cc M' n9 ch9 := by unfold rc_cc; rw [e1, e2]; exact hh
theorem sp_fch_sound {L : sp_N} {E : sp_E} {s : sp_N} {n9 c9 b9 : Nat} (hh : sp_fch L E s n9 c9 b9 = true) : sp_sub b9 (sp_sound s) = 0 := by
  unfold sp_fch at hh
  simp only [Bool.and_eq_true, decide_eq_true_eq] at hh
  exact hh.2.1
theorem sp_sub_lt {a9 b9 n9 : Nat} (hh : sp_sub a9 b9 = 0) (hb : b9 < 2 ^ n9) : a9 < 2 ^ n9 := by
  apply Nat.lt_pow_two_of_testBit
  intro i9 hi9
  refine ts_nt (fun q9 => ?_)
  have h1 := sp_sub_0.mp hh i9 q9
  have h2 := Nat.testBit_lt_two_pow (Nat.lt_of_lt_of_le hb (Nat.pow_le_pow_right (n := 2) (by decide) hi9))
  rw [h2] at h1; cases h1
theorem sp_fch_cnt {L : sp_N} {E : sp_E} {s : sp_N} {n9 c9 : Nat} : fb_ct (sp_fch L E s n9 c9) 256 ≤ 70 := by
  have hsub : fb_ct (sp_fch L E s n9 c9) 256 ≤ fb_ct (fun b9 => decide (sp_pc b9 = sp_needs L c9)) 256 := fb_ct_sub (fun k9 _ q9 => by
    unfold sp_fch at q9
    simp only [Bool.and_eq_true, decide_eq_true_eq] at q9
    exact decide_eq_true q9.2.2.1)
  rcases sp_needs_or L c9 with e9 | e9
  · rw [e9] at hsub; have := sp_c70.2; omega
  · rw [e9] at hsub; have := sp_c70.1; omega
section PGR
variable {S : pg_S} {Λ : pg_L} {d h l : Nat} {M : pg_M} {G : sp_G} {L s : sp_N} {E : sp_E}
theorem rc_mostPull {c9 n9 : Nat} (hc : c9 < L 4 0) (hn : n9 ≤ 6) (hh : h < 2 ^ 29) (hl9 : 169 ≤ l) (hF : pg_full Λ) (hL : pg_isX5 Λ l) (hs : rc_S M 3 s) (hl : rc_L M l L E) (hk : sp_okL L E) (ho : sp_okS L s h) : pg_Ev S Λ YX3_mostPull (d + 3) [.ref l, .ref 3, .int (nI c9), .int (nI n9)] M (fun r M' => ∃ v, r = some (.int v) ∧ (v = nI (sp_hard L E s c9 n9) ∧ pg_fr [l + 11, l + 14] M M')) := by
  have h6 := hk.1
  have h41 := ho.2.1
  have w9 := (ho.2.2.1 c9).1
  refine oX3_mostPull (sX3_mostPull_0 hF.now (vp_in_nI (by omega) (by decide)) ?_)
  rw [nI_clamp (by omega), show M.1 (3 + 1) c9 = nI (sp_wk L E s c9 0) from (hs.2.2.1 c9 (by omega)).1]
  refine pg_loop (fun k9 (mq : pg_M) => pg_At S Λ YX3_mostPull (d + 3) 14 [(0, .ref l), (1, .ref 3), (2, .int (nI c9)), (3, .int (nI n9)), (4, .int (nI (sp_wk L E s c9 k9))), (5, .int (nI (sp_hard L E s c9 k9))), (6, .int (nI k9))] [] mq _) (fun k9 mq => pg_fr [l + 11, l + 14] M mq) n9 ?_ ?_ 0 M (Nat.zero_le _) pg_fr.rfl'
  · intro mq fq
    have cq : nI n9 ≤ nI n9 := nI_le (Nat.le_refl _) (by omega)
    exact sX3_mostPull_14 (Q0 := fun _ _ => True) (Q1 := fun _ _ => True) (Q2 := fun _ _ => True) hF.now hL (fun _ => ⟨_, rfl, rfl, fq⟩) (fun c => absurd cq c) (fun c => absurd cq c) (fun c => absurd cq c) (fun c => absurd cq c)
  · intro k9 mq hk9 fq ihq
    have cq : ¬ nI n9 ≤ nI k9 := nI_ge hk9 (by omega)
    have sq := hs.keep fq (fun j9 hj9 => by simp; omega)
    have lq := hl.keep fq (fun j9 a9 b9 e9 => by simp; omega)
    have wk9 := sp_wk_le (L := L) (E := E) (s := s) (c := c9) w9 k9
    have hd9 := sp_hard_le (L := L) (E := E) (s := s) (c := c9) k9
    have pl9 := sp_pull_le (L := L) (E := E) (c := c9) (wet := sp_wk L E s c9 k9) (wind := sp_wind L (s 4 1 + k9))
    refine sX3_mostPull_14 (Q0 := fun v M' => v = nI (sp_wind L (s 4 1 + k9)) ∧ M' = mq) (Q1 := fun v M' => v = nI (sp_pull L E c9 (sp_wk L E s c9 k9) (sp_wind L (s 4 1 + k9))) ∧ pg_fr [l + 11, l + 14] M M') (Q2 := fun v M' => v = nI (sp_wk L E s c9 (k9 + 1)) ∧ pg_fr [l + 11, l + 14] M M') hF.now hL (fun c => absurd c cq) ?_ ?_ ?_ ?_
    · intro _; rw [sq.2.1, nI_add]; exact pg_Ev.mono (by omega) (rc_windAt (d := 0) (by omega) hL lq hk)
    · rintro _ vq Mq1 ⟨rfl, rfl⟩
      refine pg_Ev.imp ?_ (rc_pullOn hc hL lq hk)
      rintro rq Mq2 ⟨v, e1, e2, e3⟩
      exact ⟨v, e1, e2, fq.trans (e3.mono (fun b9 hb9 => by simp at hb9 ⊢; omega))⟩
    · rintro _ vq Mq1 ⟨rfl, rfl⟩ vq2 Mq2 ⟨rfl, fq2⟩
      refine pg_Ev.imp ?_ (rc_wetAfter hc (by omega) hL (hl.keep fq2 (fun j9 a9 b9 e9 => by simp; omega)) hk)
      rintro rq Mq3 ⟨v, e1, e2, e3⟩
      exact ⟨v, e1, e2, fq2.trans (e3.mono (fun b9 hb9 => by simp at hb9 ⊢; omega))⟩
    · rintro _ vq Mq1 ⟨rfl, rfl⟩ vq2 Mq2 ⟨rfl, fq2⟩ vq3 Mq3 ⟨rfl, fq3⟩
      rw [nI_1, pg_max_nI (by omega) (by omega)]
      exact ihq Mq3 fq3
/-- the choices of one cloth -/
theorem rc_chooseFor {c9 n9 : Nat} (hc : c9 < L 4 0) (hn : n9 ≤ 6) (hh : h < 2 ^ 29) (hl9 : 169 ≤ l) (hF : pg_full Λ) (hL : pg_isX5 Λ l) (hs : rc_S M 3 s) (hl : rc_L M l L E) (hk : sp_okL L E) (ho : sp_okS L s h) (hmk : M.1 153 8 = nI (2 ^ s 4 0)) (hcc : rc_cc M c9 (sp_fch L E s n9)) : pg_Ev S Λ YX3_chooseFor (d + 4) [.ref 153, .ref l, .ref 3, .int (nI c9), .int (nI n9)] M (fun r M' => r = none ∧ (rc_cc M' (c9 + 1) (sp_fch L E s n9) ∧ pg_fr [l + 11, l + 14, 154, 155] M M')) := by
  have h6 := hk.1
  have h8 := ho.1
  have p8 : 2 ^ s 4 0 ≤ 2 ^ 8 := Nat.pow_le_pow_right (by decide) h8
  have p0 : 0 < 2 ^ s 4 0 := Nat.pow_pos (by decide)
  have o1 := (ho.2.2.1 c9).2.1
  have hsl : sp_sound s < 2 ^ s 4 0 := sp_mk_lt _ _
  have hcl : (nI c9).toNatClampNeg = c9 := nI_clamp (by omega)
  have hd9 := sp_hard_le (L := L) (E := E) (s := s) (c := c9) n9
  have hn4 : 2 ≤ sp_needs L c9 ∧ sp_needs L c9 ≤ 4 := by rcases sp_needs_or L c9 with e9 | e9 <;> omega
  have cnt := sp_fch_cnt (L := L) (E := E) (s := s) (n9 := n9) (c9 := c9)
  have hlast : ∀ {Nq : pg_M} {vq : Int32}, pg_fr [l + 11, l + 14, 154, 155] M Nq → (∀ c1, c1 < c9 → Nq.1 155 c1 = M.1 155 c1 ∧ ∀ k9, k9 < 70 → Nq.1 154 (70 * c1 + k9) = M.1 154 (70 * c1 + k9)) → vq = nI (fb_ct (sp_fch L E s n9 c9) 256) → (∀ b9, b9 < 256 → sp_fch L E s n9 c9 b9 = true → Nq.1 154 (70 * c9 + fb_ct (sp_fch L E s n9 c9) b9) = nI b9) → rc_cc (pg_si Nq 155 c9 vq) (c9 + 1) (sp_fch L E s n9) ∧ pg_fr [l + 11, l + 14, 154, 155] M (pg_si Nq 155 c9 vq) := fun {Nq vq} f1 f2 e1 e2 => by
    refine ⟨fun c1 hc1 => ?_, f1.trans (pg_fr.si (by simp))⟩
    rw [pg_si_at, pg_si_ne (by decide)]
    by_cases e : c1 = c9
    · subst e; rw [pk_us]; exact ⟨e1, cnt, e2⟩
    · rw [pk_un e]
      obtain ⟨a1, a2, a3⟩ := hcc c1 (by omega)
      obtain ⟨g1, g2⟩ := f2 c1 (by omega)
      refine ⟨by rw [g1]; exact a1, a2, fun b9 hb9 hch => ?_⟩
      have hlt : fb_ct (sp_fch L E s n9 c1) b9 < fb_ct (sp_fch L E s n9 c1) 256 := by
        have h1 : fb_ct (sp_fch L E s n9 c1) (b9 + 1) = fb_ct (sp_fch L E s n9 c1) b9 + 1 := by rw [fb_ct_succ, hch]; rfl
        have h2 : fb_ct (sp_fch L E s n9 c1) (b9 + 1) ≤ fb_ct (sp_fch L E s n9 c1) 256 := fb_ct_mono _ hb9
        omega
      rw [g2 _ (by omega)]
      exact a3 b9 hb9 hch
  refine oX3_chooseFor (sX3_chooseFor_0 (Q0 := fun v M' => v = nI (sp_needs L c9) ∧ M' = M) (Q1 := fun v M' => v = nI (sp_sound s) ∧ M' = M) (Q2 := fun v M' => v = nI (sp_hard L E s c9 n9) ∧ pg_fr [l + 11, l + 14] M M') hL hF.now hF.x3 (rc_pegsFor hc hL hl hk) ?_ ?_ ?_ ?_ ?_)
  · rintro vq Mq1 ⟨rfl, rfl⟩; exact rc_unsplit hF.now hs ho
  · rintro vq Mq1 ⟨rfl, rfl⟩ vq2 Mq2 ⟨rfl, rfl⟩; exact rc_mostPull hc hn hh hl9 hF hL hs hl hk ho
  · rintro vq Mq1 _ vq2 Mq2 _ vq3 Mq3 _; exact vp_in_nI (by omega) (by decide)
  · rintro vq Mq1 ⟨rfl, rfl⟩ vq2 Mq2 ⟨rfl, rfl⟩ vq3 Mq3 ⟨rfl, fq⟩ q9
    have sq := hs.keep fq (fun j9 hj9 => by simp; omega)
    rw [hcl, show Mq3.1 (3 + 2) c9 = nI (s 1 c9) from (sq.2.2.1 c9 (by omega)).2.1, show (3 : Int32) = nI 3 from rfl, nI_leI (by omega) (by omega)] at q9
    rw [hcl]
    have z9 : ∀ b9, sp_fch L E s n9 c9 b9 = false := fun b9 => by unfold sp_fch; rw [decide_eq_false (by omega)]; rfl
    refine ⟨rfl, hlast (fq.mono (fun b9 hb9 => by simp at hb9 ⊢; omega)) (fun c1 _ => ⟨by rw [fq.1 155 (by simp; omega)], fun k9 _ => by rw [fq.1 154 (by simp; omega)]⟩) ?_ (fun b9 _ hb => by rw [z9] at hb; cases hb)⟩
    rw [fb_ct_zero.mpr (fun k9 _ => z9 k9)]; rfl
  · rintro vq Mq1 ⟨rfl, eM1⟩ vq2 Mq2 ⟨rfl, eM2⟩ vq3 Mq3 ⟨rfl, fq⟩ q9
    obtain rfl := eM1.symm
    obtain rfl := eM2.symm
    have sq := hs.keep fq (fun j9 hj9 => by simp; omega)
    rw [hcl, show Mq3.1 (3 + 2) c9 = nI (s 1 c9) from (sq.2.2.1 c9 (by omega)).2.1, show (3 : Int32) = nI 3 from rfl, nI_leI (by omega) (by omega)] at q9
    have chk : ∀ b9, sp_fch L E s n9 c9 b9 = true ↔ (sp_sub b9 (sp_sound s) = 0 ∧ sp_pc b9 = sp_needs L c9 ∧ sp_hard L E s c9 n9 ≤ sp_grips s b9 0) := fun b9 => by
      unfold sp_fch
      simp only [Bool.and_eq_true, decide_eq_true_eq]
      exact ⟨fun z => z.2, fun z => ⟨by omega, z⟩⟩
    have c00 : sp_fch L E s n9 c9 0 = false := ts_nt (fun z9 => by
      have h1 := ((chk 0).mp z9).2.1
      have h2 : sp_pc 0 = 0 := (by decide)
      omega)
    have cout : ∀ b9, 2 ^ s 4 0 ≤ b9 → sp_fch L E s n9 c9 b9 = false := fun b9 hb9 => ts_nt (fun z9 => by have := sp_sub_lt (sp_fch_sound z9) hsl; omega)
    have e00 : (0 : Int32) = nI (fb_ct (sp_fch L E s n9 c9) (0 + 1)) := by rw [fb_ct_succ, c00]; rfl
    rw [e00]
    refine pg_loop (fun i9 (mq : pg_M) => pg_At S Λ YX3_chooseFor (d + 4) 41 [(0, .ref 153), (2, .ref 3), (3, .int (nI c9)), (5, .int (nI (sp_needs L c9))), (6, .int (nI (sp_sound s) ^^^ (-1))), (7, .int (nI (sp_hard L E s c9 n9))), (8, .int (nI (fb_ct (sp_fch L E s n9 c9) (i9 + 1)))), (9, .int (nI (i9 + 1)))] [] mq _) (fun i9 mq => (∀ b9, b9 < i9 + 1 → sp_fch L E s n9 c9 b9 = true → mq.1 154 (70 * c9 + fb_ct (sp_fch L E s n9 c9) b9) = nI b9) ∧ (∀ c1, c1 < c9 → mq.1 155 c1 = M.1 155 c1 ∧ ∀ k9, k9 < 70 → mq.1 154 (70 * c1 + k9) = M.1 154 (70 * c1 + k9)) ∧ pg_fr [l + 11, l + 14, 154, 155] M mq) (2 ^ s 4 0 - 1) ?_ ?_ 0 Mq3 (Nat.zero_le _) ⟨fun b9 hb9 z9 => (by rw [show b9 = 0 by omega, c00] at z9; cases z9), fun c1 _ => ⟨by rw [fq.1 155 (by simp; omega)], fun k9 _ => by rw [fq.1 154 (by simp; omega)]⟩, fq.mono (fun b9 hb9 => by simp at hb9 ⊢; omega)⟩
    · rintro mq ⟨a1, a2, a3⟩
      have m8 : mq.1 153 8 = nI (2 ^ s 4 0) := by rw [a3.1 153 (by simp; omega)]; exact hmk
      have e9 : 2 ^ s 4 0 - 1 + 1 = 2 ^ s 4 0 := by omega
      have cq : mq.1 153 8 ≤ nI (2 ^ s 4 0 - 1 + 1) := by rw [m8, e9]; exact nI_le (Nat.le_refl _) (by omega)
      have oq : fb_ct (sp_fch L E s n9 c9) 256 = fb_ct (sp_fch L E s n9 c9) (2 ^ s 4 0 - 1 + 1) := by rw [e9]; exact sp_ct_out 256 (by omega) (fun j9 hj9 _ => cout j9 hj9)
      refine sX3_chooseFor_41 (Q0 := fun _ _ => True) hF.x3 hF.now (fun _ => vp_in_nI (by omega) (by decide)) (fun _ => ?_) (fun c => absurd cq c) (fun c => absurd cq c) (fun c => absurd cq c) (fun c => absurd cq c) (fun c => absurd cq c) (fun c => absurd cq c) (fun c => absurd cq c)
      rw [hcl]
      refine ⟨rfl, hlast a3 a2 (by rw [oq]) (fun b9 hb9 hch => a1 b9 ?_ hch)⟩
      have : ¬ 2 ^ s 4 0 ≤ b9 := fun z9 => by rw [cout b9 z9] at hch; cases hch
      omega
    · rintro i9 mq hi9 ⟨a1, a2, a3⟩ ihq
      have m8 : mq.1 153 8 = nI (2 ^ s 4 0) := by rw [a3.1 153 (by simp; omega)]; exact hmk
      have cq : ¬ mq.1 153 8 ≤ nI (i9 + 1) := by rw [m8]; exact nI_ge (by omega) (by omega)
      have sq9 := hs.keep a3 (fun j9 hj9 => by simp; omega)
      have e8 : sp_fch L E s n9 c9 (i9 + 1) = false → fb_ct (sp_fch L E s n9 c9) (i9 + 1 + 1) = fb_ct (sp_fch L E s n9 c9) (i9 + 1) := fun z9 => by rw [fb_ct_succ _ (i9 + 1), z9]; rfl
      have inv : sp_fch L E s n9 c9 (i9 + 1) = false → ∀ b9, b9 < i9 + 1 + 1 → sp_fch L E s n9 c9 b9 = true → mq.1 154 (70 * c9 + fb_ct (sp_fch L E s n9 c9) b9) = nI b9 := fun z9 b9 hb9 hch => by
        have : b9 ≠ i9 + 1 := fun y9 => by rw [y9, z9] at hch; cases hch
        exact a1 b9 (by omega) hch
      have hbc : pg_bc (nI (i9 + 1)) = nI (sp_pc (i9 + 1)) := sp_pc_bc _ (by omega)
      have hpc := sp_pc_le (i9 + 1)
      have hsb : nI (i9 + 1) &&& (nI (sp_sound s) ^^^ (-1)) = 0 ↔ sp_sub (i9 + 1) (sp_sound s) = 0 := by
        rw [nb_andn, ← nI_0, nI_eq (Nat.xor_lt_two_pow (n := 31) (by omega) (Nat.lt_of_le_of_lt Nat.and_le_left (by omega))) (by omega)]; rfl
      have hg9 := sp_grips_le (bits := i9 + 1) (less := 0) ho
      refine sX3_chooseFor_41 (Q0 := fun v M' => v = nI (sp_grips s (i9 + 1) 0) ∧ M' = mq) hF.x3 hF.now (fun c => absurd c cq) (fun c => absurd c cq) ?_ ?_ ?_ ?_ ?_ ?_ ?_
      · intro _ q9
        rw [hbc, nI_eq (by omega) (by omega)] at q9
        have z9 : sp_fch L E s n9 c9 (i9 + 1) = false := ts_nt (fun y9 => q9 ((chk _).mp y9).2.1)
        rw [nI_1, ← e8 z9]
        exact ihq mq ⟨inv z9, a2, a3⟩
      · intro _ _ q9
        rw [hsb] at q9
        have z9 : sp_fch L E s n9 c9 (i9 + 1) = false := ts_nt (fun y9 => q9 ((chk _).mp y9).1)
        rw [nI_1, ← e8 z9]
        exact ihq mq ⟨inv z9, a2, a3⟩
      · intro _ _ _; exact pg_Ev.mono (by omega) (rc_gripsOf (d := 0) (by omega) hF.now sq9 ho)
      · rintro _ _ _ v9 Mq5 ⟨rfl, rfl⟩ q9
        rw [nI_ltI (by omega) (by omega)] at q9
        have z9 : sp_fch L E s n9 c9 (i9 + 1) = false := ts_nt (fun y9 => by have := ((chk _).mp y9).2.2; omega)
        rw [nI_1, ← e8 z9]
        exact ihq Mq5 ⟨inv z9, a2, a3⟩
      · rintro _ p1 p2 v9 Mq5 ⟨rfl, rfl⟩ q9 q8
        rw [hbc, nI_eq (by omega) (by omega)] at p1
        rw [hsb] at p2
        rw [nI_ltI (by omega) (by omega)] at q9
        have y9 : sp_fch L E s n9 c9 (i9 + 1) = true := (chk _).mpr ⟨p2, p1, by omega⟩
        have t9 := fb_ct_succ (sp_fch L E s n9 c9) (i9 + 1)
        rw [y9] at t9
        have t8 := fb_ct_mono (sp_fch L E s n9 c9) (show i9 + 1 + 1 ≤ 256 by omega)
        simp only [if_true] at t9
        rw [show (70 : Int32) = nI 70 from rfl, nI_leI (by omega) (by omega)] at q8
        omega
      · rintro _ p1 p2 v9 Mq5 ⟨rfl, rfl⟩ q9 q8
        have t7 := fb_ct_le (sp_fch L E s n9 c9) (i9 + 1)
        rw [show (70 : Int32) = nI 70 from rfl, nI_leI (by omega) (by omega)] at q8
        rw [show (70 : Int32) = nI 70 from rfl, pk_mul, nI_add]
        exact vp_in_nI (by omega) (by decide)
      · rintro _ p1 p2 v9 Mq5 ⟨rfl, rfl⟩ q9 q8
        have t7 := fb_ct_le (sp_fch L E s n9 c9) (i9 + 1)
        rw [hbc, nI_eq (by omega) (by omega)] at p1
        rw [hsb] at p2
        rw [nI_ltI (by omega) (by omega)] at q9
        have y9 : sp_fch L E s n9 c9 (i9 + 1) = true := (chk _).mpr ⟨p2, p1, by omega⟩
        have t9 : fb_ct (sp_fch L E s n9 c9) (i9 + 1 + 1) = fb_ct (sp_fch L E s n9 c9) (i9 + 1) + 1 := by rw [fb_ct_succ, y9]; rfl
        rw [show (70 : Int32) = nI 70 from rfl, nI_leI (by omega) (by omega)] at q8
        have ix : ((nI c9 * 70) + nI (fb_ct (sp_fch L E s n9 c9) (i9 + 1))).toNatClampNeg = 70 * c9 + fb_ct (sp_fch L E s n9 c9) (i9 + 1) := by
          rw [show (70 : Int32) = nI 70 from rfl, pk_mul, nI_add, nI_clamp (by omega), Nat.mul_comm]
        rw [ix, nI_1, nI_1, ← t9]
        refine ihq _ ⟨fun b9 hb9 hch => ?_, fun c1 hc1 => ?_, a3.trans (pg_fr.si (by simp))⟩
        · rw [pg_si_at]
          by_cases e : b9 = i9 + 1
          · subst e; rw [pk_us]
          · have ne : 70 * c9 + fb_ct (sp_fch L E s n9 c9) b9 ≠ 70 * c9 + fb_ct (sp_fch L E s n9 c9) (i9 + 1) := fun z9 => e (fb_ct_kth_one hch y9 (by omega))
            rw [pk_un ne]
            exact a1 b9 (by omega) hch
        · obtain ⟨g1, g2⟩ := a2 c1 hc1
          refine ⟨by rw [pg_si_ne (by decide)]; exact g1, fun k9 hk9 => ?_⟩
          rw [pg_si_at, pk_un (by omega)]
          exact g2 k9 hk9
end PGR
