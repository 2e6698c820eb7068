/-! fill of the class -/
/-- a set that can hang -/
def sp_ok9 (L : sp_N) (ch9 : Nat → Nat → Bool) (A9 : Nat) : Prop := sp_wS (L 1) (L 4 0) A9 ≤ L 4 1 ∧ ∃ x9, x9 < 256 ∧ sp_asg ch9 A9 x9
theorem rc_tb.can {M : pg_M} {L : sp_N} {ch9 : Nat → Nat → Bool} {A9 : Nat} (hh : rc_tb M L ch9 A9) : ¬ M.1 158 A9 = 0 ↔ sp_ok9 L ch9 A9 := by
  obtain ⟨a1, a2, a3, a4⟩ := hh
  rw [a3.iff]
  constructor
  · rintro ⟨x9, g1, g2⟩
    obtain ⟨g3, g4⟩ := (a4 x9 g1).mp g2
    exact ⟨g3, x9, g1, g4⟩
  · rintro ⟨g3, x9, g1, g4⟩
    exact ⟨x9, g1, (a4 x9 g1).mpr ⟨g3, g4⟩⟩
theorem sp_best {L : sp_N} {ch9 : Nat → Nat → Bool} {snd9 t9 : Nat} (hs : snd9 < 256) (hsn : ∀ c9 b9, ch9 c9 b9 = true → sp_sub b9 snd9 = 0) (g1 : ∀ A9, A9 < 2 ^ L 4 0 → sp_ok9 L ch9 A9 → sp_wS (L 3) (L 4 0) A9 ≤ t9) (g2 : t9 = 0 ∨ ∃ A9, A9 < 2 ^ L 4 0 ∧ sp_ok9 L ch9 A9 ∧ sp_wS (L 3) (L 4 0) A9 = t9) : t9 = sp_fb ch9 (L 1) (L 3) (L 4 0) 0 snd9 (L 4 1) := by
  have h256 : ∀ c9 b9, ch9 c9 b9 = true → b9 < 256 := fun e9 b9 hb => sp_sub_lt (n9 := 8) (hsn e9 b9 hb) hs
  apply Nat.le_antisymm
  · rcases g2 with z9 | ⟨A9, y1, ⟨y2, x9, y3, y4⟩, y5⟩
    · omega
    · rw [← y5]
      refine sp_fb_ub h256 (L 4 0) 0 snd9 (L 4 1) A9 x9 (by omega) (fun i hi => ⟨Nat.zero_le _, ?_⟩) y2 y4 (sp_asg_snd hsn y4)
      rcases Nat.lt_or_ge i (L 4 0) with z9 | z9
      · exact z9
      · have := Nat.testBit_lt_two_pow (Nat.lt_of_lt_of_le y1 (Nat.pow_le_pow_right (n := 2) (by decide) z9))
        rw [this] at hi; cases hi
  · obtain ⟨A9, x9, y1, y2, y3, y4, y5⟩ := sp_fb_ex (ch := ch9) (w := L 1) (v := L 3) (N := L 4 0) (L 4 0) 0 snd9 (L 4 1) (by omega)
    rw [← y5]
    refine g1 A9 ?_ ⟨y2, x9, sp_sub_lt (n9 := 8) y4 hs, y3⟩
    apply Nat.lt_pow_two_of_testBit
    intro i9 hi
    exact ts_nt (fun z9 => by have := y1 i9 z9; omega)
theorem rc_G.fz {M M' : pg_M} {G : sp_G} (hg : rc_G M G) (hh : pg_pf (fun b => rc_q b ∨ b = 156 ∨ b = 157) M M') (hz : rc_Z M') : rc_G M' G := by
  obtain ⟨h1, h3, h4⟩ := hh
  obtain ⟨gd, gl, gn, gs, gf, gu, gm, gp, gt, gz⟩ := hg
  have gdl := gd.l
  have gdp := gd.p
  refine ⟨gd.mv h4, ?_, ?_, gs.fr (fun j hj => h1 _ (by unfold rc_q; omega)), gf.fr (fun j hj => h1 _ (by unfold rc_q; omega)), gu.fr (h1 _ (by unfold rc_q; omega)) (fun b a c => h1 _ (by unfold rc_q; omega)), gm.fr (h1 _ (by unfold rc_q; omega)) (fun b a c => h1 _ (by unfold rc_q; omega)), ?_, ?_, hz⟩
  · rw [h4]
    exact gl.fr (fun j a b c => h1 _ (by unfold rc_q; omega))
  · intro c hc
    rw [h4, h3 _ (by unfold rc_q; omega)]
    exact gn c hc
  · rw [h4]
    exact gp.fr (by rw [h1 _ (by unfold rc_q; omega)]) (fun j a b => h1 _ (by unfold rc_q; omega))
  · unfold rc_T at gt ⊢
    rw [h1 1 (by unfold rc_q; omega), h1 2 (by unfold rc_q; omega)]
    exact gt
section PGR
variable {S : pg_S} {Λ : pg_L} {d h l : Nat} {M : pg_M} {G : sp_G} {L s : sp_N} {E : sp_E}
theorem rc_plan {n9 : Nat} (hn : n9 ≤ 6) (hh : h < 2 ^ 29) (hl9 : 169 ≤ l) (hF : pg_full Λ) (hL : pg_isX5 Λ l) (hs : rc_S M 3 s) (hl : rc_L M l L E) (hk : sp_okL L E) (ho : sp_okS L s h) (hz : rc_Z M) : pg_Ev S Λ YX3_plan (d + 5) [.ref 153, .ref l, .ref 3, .int (nI n9)] M (fun r M' => r = none ∧ (M'.1 153 9 = nI (sp_flT L E s n9) ∧ (∀ k9 x9, (sp_flR L E s n9)[k9]? = some x9 → M'.1 160 k9 = nI x9) ∧ rc_Z M' ∧ pg_fr [153, 154, 155, 156, 157, 158, 159, 160, l + 11, l + 14] M M')) := by
  have h6 := hk.1
  have h8 := ho.1
  have pN : 2 ^ L 4 0 ≤ 2 ^ 6 := Nat.pow_le_pow_right (by decide) h6
  have pN0 : 0 < 2 ^ L 4 0 := Nat.pow_pos (by decide)
  have p8 : 2 ^ s 4 0 ≤ 2 ^ 8 := Nat.pow_le_pow_right (by decide) h8
  have hsl : sp_sound s < 2 ^ s 4 0 := sp_mk_lt _ _
  have hsn : ∀ c9 b9, sp_fch L E s n9 c9 b9 = true → sp_sub b9 (sp_sound s) = 0 := fun c9 b9 z9 => sp_fch_sound z9
  have h00 : ∀ c9, sp_fch L E s n9 c9 0 = false := fun c9 => ts_nt (fun z9 => by
    unfold sp_fch at z9
    simp only [Bool.and_eq_true, decide_eq_true_eq] at z9
    have h1 := z9.2.2.1
    have h2 : sp_pc 0 = 0 := (by decide)
    rcases sp_needs_or L c9 with e9 | e9 <;> omega)
  refine oX3_plan (sX3_plan_0 hL hF.x3 hF.now ?_)
  intro Nq1 eq1
  have m7 : Nq1.1 153 7 = nI (2 ^ L 4 0) := by
    rw [eq1, pg_si_at, pk_un (by decide), pg_si_at, pk_us, hl.1, nb_pow (by omega)]
  have m8 : Nq1.1 153 8 = nI (2 ^ s 4 0) := by
    rw [eq1, pg_si_at, pk_us, pg_si_ne (by decide), hs.1, nb_pow (by omega)]
  have f1 : pg_fr [153] M Nq1 := by rw [eq1]; exact (pg_fr.si (by simp)).trans (pg_fr.si (by simp))
  clear eq1
  refine pg_loop (fun c9 (mq : pg_M) => pg_At S Λ YX3_plan (d + 5) 23 [(0, .ref 153), (1, .ref l), (2, .ref 3), (3, .int (nI n9)), (4, .int (nI c9))] [] mq _) (fun c9 mq => rc_cc mq c9 (sp_fch L E s n9) ∧ pg_fr [154, 155, l + 11, l + 14] Nq1 mq) (L 4 0) ?_ ?_ 0 Nq1 (Nat.zero_le _) ⟨fun c9 hc => absurd hc (Nat.not_lt_zero _), pg_fr.rfl'⟩
  · rintro mq ⟨a1, a2⟩
    have fM : pg_fr [153, 154, 155, 156, 157, 158, 159, 160, l + 11, l + 14] M mq := (f1.mono (fun b9 hb9 => by simp at hb9 ⊢; omega)).trans (a2.mono (fun b9 hb9 => by simp at hb9 ⊢; omega))
    have cq : mq.1 l 10 ≤ nI (L 4 0) := by rw [fM.1 l (by simp; omega), hl.1]; exact nI_le (Nat.le_refl _) (by omega)
    refine sX3_plan_23 (Q0 := fun _ => True) hL hF.x3 (fun _ => ?_) (fun c => absurd cq c) (fun c => absurd cq c)
    intro Nq2 eq2
    have z00 : (0 : Int32).toNatClampNeg = 0 := rfl
    rw [z00] at eq2
    have f2 : pg_fr [153, 158, 159] mq (pg_si Nq2 153 9 0) := by rw [eq2]; exact (((pg_fr.sl (by simp)).trans (pg_fr.sj (by simp))).trans (pg_fr.si (by simp))).trans (pg_fr.si (by simp))
    have hb2 : ∀ A9 x9, A9 < 64 → x9 < 256 → rc_hb (pg_si Nq2 153 9 0) A9 x9 = decide (A9 = 0 ∧ x9 = 0) := fun A9 x9 hA hx => by
      rw [eq2]
      show ((pg_sj (pg_sl2 mq 159 _) 159 0 1).2.1 159 (4 * A9 + x9 / 64)).toBitVec.getLsbD (x9 % 64) = _
      rw [pg_sj_at, pg_sl2_at]
      by_cases q9 : 4 * A9 + x9 / 64 = 0
      · rw [q9, pk_uLs]
        have e1 : (1 : Int64).toBitVec = BitVec.ofNat 64 (2 ^ 0) := rfl
        rw [e1, BitVec.getLsbD_ofNat, Nat.testBit_two_pow, decide_eq_true (show x9 % 64 < 64 by omega), Bool.true_and]
        exact decide_eq_decide.mpr (by omega)
      · rw [pk_uLn q9, if_pos (by omega), decide_eq_false (by omega)]
        show (BitVec.ofNat 64 0).getLsbD (x9 % 64) = false
        rw [BitVec.getLsbD_ofNat, Nat.zero_testBit, Bool.and_false]
    have c2 : (pg_si Nq2 153 9 0).1 158 0 = 1 := by rw [pg_si_ne (by decide), eq2, pg_si_at, pk_us]; rfl
    have t2 : (pg_si Nq2 153 9 0).1 153 9 = nI 0 := by rw [pg_si_at, pk_us]; rfl
    have k2 : ∀ i9, i9 ≠ 9 → (pg_si Nq2 153 9 0).1 153 i9 = mq.1 153 i9 := fun i9 hi => by
      rw [pg_si_at, pk_un hi, eq2]
      show mq.1 153 i9 = mq.1 153 i9
      rfl
    generalize pg_si Nq2 153 9 0 = Nq3 at *
    clear eq2
    have z0 : Nq3.1 156 0 = 0 ∧ Nq3.1 157 0 = 0 := by
      rw [f2.1 156 (by simp), f2.1 157 (by simp), a2.1 156 (by simp; omega), a2.1 157 (by simp; omega), f1.1 156 (by simp), f1.1 157 (by simp)]; exact hz
    have tab1 : rc_tab Nq3 L (sp_fch L E s n9) (0 + 1) := by
      refine ⟨fun A9 hA => ?_, fun A9 g1 g2 x9 hx => ?_⟩
      · have e0 : A9 = 0 := by omega
        rw [e0]
        refine ⟨by rw [z0.1, sp_wS_0]; rfl, by rw [z0.2, sp_wS_0]; rfl, Or.inr ⟨c2, 0, by omega, ?_⟩, fun x9 hx => ?_⟩
        · rw [hb2 0 0 (by omega) (by omega)]; rfl
        · rw [hb2 0 x9 (by omega) hx, decide_eq_true_eq, sp_wS_0, sp_asg_0]
          exact ⟨fun y9 => ⟨Nat.zero_le _, y9.2⟩, fun y9 => ⟨rfl, y9.2⟩⟩
      · rw [hb2 A9 x9 g2 hx, decide_eq_false (by omega)]
    have f3 : pg_fr [153, 154, 155, 156, 157, 158, 159, 160, l + 11, l + 14] M Nq3 := fM.trans (f2.mono (fun b9 hb9 => by simp at hb9 ⊢; omega))
    have m73 : Nq3.1 153 7 = nI (2 ^ L 4 0) := by rw [k2 7 (by decide), a2.1 153 (by simp; omega)]; exact m7
    have m83 : Nq3.1 153 8 = nI (2 ^ s 4 0) := by rw [k2 8 (by decide), a2.1 153 (by simp; omega)]; exact m8
    have cc3 : rc_cc Nq3 (L 4 0) (sp_fch L E s n9) := a1.fr (f2.1 154 (by simp)) (f2.1 155 (by simp))
    refine pg_loop (fun i9 (nq : pg_M) => pg_At S Λ YX3_plan (d + 5) 77 [(0, .ref 153), (1, .ref l), (4, .int (nI (i9 + 1)))] [] nq _) (fun i9 nq => rc_tab nq L (sp_fch L E s n9) (i9 + 1) ∧ (∃ t9, nq.1 153 9 = nI t9 ∧ t9 ≤ 600 ∧ (∀ A9, A9 < i9 + 1 → sp_ok9 L (sp_fch L E s n9) A9 → sp_wS (L 3) (L 4 0) A9 ≤ t9) ∧ (t9 = 0 ∨ ∃ A9, A9 < i9 + 1 ∧ sp_ok9 L (sp_fch L E s n9) A9 ∧ sp_wS (L 3) (L 4 0) A9 = t9)) ∧ nq.1 153 7 = nI (2 ^ L 4 0) ∧ nq.1 153 8 = nI (2 ^ s 4 0) ∧ rc_cc nq (L 4 0) (sp_fch L E s n9) ∧ pg_fr [153, 154, 155, 156, 157, 158, 159, 160, l + 11, l + 14] M nq) (2 ^ L 4 0 - 1) ?_ ?_ 0 Nq3 (Nat.zero_le _) ⟨tab1, ⟨0, t2, by omega, fun A9 hA _ => by rw [show A9 = 0 by omega, sp_wS_0]; exact Nat.le_refl _, Or.inl rfl⟩, m73, m83, cc3, f3⟩
    · rintro nq ⟨b1, ⟨t9, b2, b3, b4, b5⟩, b6, b7, b8, b9⟩
      have e9 : 2 ^ L 4 0 - 1 + 1 = 2 ^ L 4 0 := by omega
      rw [e9] at b1 b4 b5
      rw [e9]
      have cn : nq.1 153 7 ≤ nI (2 ^ L 4 0) := by rw [b6]; exact nI_le (Nat.le_refl _) (by omega)
      have hbest := sp_best (by omega) hsn b4 b5
      have lay := rc_layRow (S := S) (Λ := Λ) (d := d) (M := nq) (L := L) (E := E) (l := l) hl9 h8 hsl hsn h00 hbest.symm hF hL (hl.keep b9 (fun j9 g1 g2 g3 => by simp; omega)) hk b7 b6 b2 (by omega) b8 b1
      refine sX3_plan_77 (Q1 := fun _ => True) hF.x3 (fun _ => lay) ?_ (fun c => absurd cn c) (fun c => absurd cn c) (fun c => absurd cn c) (fun c => absurd cn c)
      rintro _ Mq6 ⟨y1, y2⟩
      have tb0 := b1.1 0 pN0
      have e0 : nI (sp_wS (L 1) (L 4 0) 0) = 0 := by rw [sp_wS_0]; rfl
      have e3 : nI (sp_wS (L 3) (L 4 0) 0) = 0 := by rw [sp_wS_0]; rfl
      refine ⟨rfl, ?_, y1, ⟨by rw [y2.1 156 (by decide), tb0.1, e0], by rw [y2.1 157 (by decide), tb0.2.1, e3]⟩, b9.trans (y2.mono (fun k9 hk9 => by simp at hk9 ⊢; omega))⟩
      rw [y2.1 153 (by decide), b2, hbest]; rfl
    · rintro i9 nq hi9 ⟨b1, ⟨t9, b2, b3, b4, b5⟩, b6, b7, b8, b9⟩ ihq
      have cn : ¬ nq.1 153 7 ≤ nI (i9 + 1) := by rw [b6]; exact nI_ge (by omega) (by omega)
      have hset := rc_holdSet (S := S) (Λ := Λ) (d := d + 1) (M := nq) (L := L) (E := E) (l := l) (A9 := i9 + 1) (by omega) (by omega) h8 hsl hsn hl9 hF hL (hl.keep b9 (fun j9 g1 g2 g3 => by simp; omega)) hk b7 b8 b1
      have icl : (nI (i9 + 1)).toNatClampNeg = i9 + 1 := nI_clamp (by omega)
      have wb3 := sp_wS_le (v9 := L 3) (N9 := L 4 0) (A9 := i9 + 1) (t9 := 99) (fun c9 => (hk.2.1 c9).2.2.2)
      refine sX3_plan_77 (Q0 := fun _ => True) hF.x3 (fun c => absurd c cn) (fun c => absurd c cn) (fun _ => hset) (fun _ _ _ => vp_in_nI (by omega) (by decide)) ?_ ?_
      · rintro _ Mq6 ⟨y1, y2⟩ q9
        have tbi := y1.1 (i9 + 1) (by omega)
        rw [icl] at q9
        have nok : ¬ sp_ok9 L (sp_fch L E s n9) (i9 + 1) := fun z9 => tbi.can.mpr z9 q9
        rw [nI_1]
        refine ihq Mq6 ⟨y1, ⟨t9, by rw [y2.1 153 (by decide)]; exact b2, b3, fun A9 hA hok => ?_, ?_⟩, by rw [y2.1 153 (by decide)]; exact b6, by rw [y2.1 153 (by decide)]; exact b7, b8.fr (y2.1 154 (by decide)) (y2.1 155 (by decide)), b9.trans (y2.mono (fun k9 hk9 => by simp at hk9 ⊢; omega))⟩
        · by_cases z9 : A9 = i9 + 1
          · rw [z9] at hok; exact absurd hok nok
          · exact b4 A9 (by omega) hok
        · rcases b5 with z9 | ⟨A9, g1, g2⟩
          · exact Or.inl z9
          · exact Or.inr ⟨A9, by omega, g2⟩
      · rintro _ Mq6 ⟨y1, y2⟩ q9
        have tbi := y1.1 (i9 + 1) (by omega)
        rw [icl] at q9
        have yok := tbi.can.mp q9
        rw [icl, nI_1, y2.1 153 (by decide), b2, tbi.2.1, pg_max_nI (by omega) (by omega)]
        have fz : pg_fr [153] Mq6 (pg_si Mq6 153 9 (nI (max t9 (sp_wS (L 3) (L 4 0) (i9 + 1))))) := pg_fr.si (by simp)
        refine ihq _ ⟨y1.fr (fz.1 156 (by simp)) (fz.1 157 (by simp)) (fz.1 158 (by simp)) (fz.2.1 159 (by simp)), ⟨max t9 (sp_wS (L 3) (L 4 0) (i9 + 1)), by rw [pg_si_at, pk_us], by omega, fun A9 hA hok => ?_, ?_⟩, by rw [pg_si_at, pk_un (by decide), y2.1 153 (by decide)]; exact b6, by rw [pg_si_at, pk_un (by decide), y2.1 153 (by decide)]; exact b7, b8.fr ((fz.1 154 (by simp)).trans (y2.1 154 (by decide))) ((fz.1 155 (by simp)).trans (y2.1 155 (by decide))), (b9.trans (y2.mono (fun k9 hk9 => by simp at hk9 ⊢; omega))).trans (fz.mono (fun k9 hk9 => by simp at hk9 ⊢; omega))⟩
        · by_cases z9 : A9 = i9 + 1
          · rw [z9]; omega
          · have := b4 A9 (by omega) hok; omega
        · by_cases z9 : t9 ≤ sp_wS (L 3) (L 4 0) (i9 + 1)
          · exact Or.inr ⟨i9 + 1, by omega, yok, by omega⟩
          · rcases b5 with z8 | ⟨A9, g1, g2, g3⟩
            · omega
            · exact Or.inr ⟨A9, by omega, g2, by omega⟩
  · rintro c9 mq hc9 ⟨a1, a2⟩ ihq
    have fM : pg_fr [153, 154, 155, l + 11, l + 14] M mq := (f1.mono (fun b9 hb9 => by simp at hb9 ⊢; omega)).trans (a2.mono (fun b9 hb9 => by simp at hb9 ⊢; omega))
    have cq : ¬ mq.1 l 10 ≤ nI c9 := by rw [fM.1 l (by simp; omega), hl.1]; exact nI_ge hc9 (by omega)
    refine sX3_plan_23 (Q0 := fun M' => rc_cc M' (c9 + 1) (sp_fch L E s n9) ∧ pg_fr [l + 11, l + 14, 154, 155] mq M') hL hF.x3 (fun c => absurd c cq) (fun _ => rc_chooseFor hc9 hn hh hl9 hF hL (hs.keep fM (fun j9 hj9 => by simp; omega)) (hl.keep fM (fun j9 g1 g2 g3 => by simp; omega)) hk ho (by rw [a2.1 153 (by simp; omega)]; exact m8) a1) ?_
    rintro _ Mq6 ⟨y1, y2⟩
    rw [nI_1]
    exact ihq _ ⟨y1, a2.trans (y2.mono (fun k9 hk9 => by simp at hk9 ⊢; omega))⟩
theorem rc_fill {x y : Int32} (hh : h < 2 ^ 29) (hF : pg_full Λ) (hg : rc_G M G) (hk : sp_okG G h) : pg_Ev S Λ YX10_fill (d + 6) [.ref 0, .int x, .int y] M (fun r M' => ∃ v, r = some (.int v) ∧ (v = sp_qfill G x y ∧ rc_G M' G ∧ rc_out M M')) := by
  have hL := hg.d.x5 hF
  have gdl := hg.d.l
  have h6 := hk.l.1
  have plan9 : ∀ n9, n9 ≤ 6 → pg_Ev S Λ YX3_plan (d + 5) [.ref 153, .ref (M.2.2 0 8), .ref 3, .int (nI n9)] M (fun r M' => r = none ∧ (M'.1 153 9 = nI (sp_flT G.L G.E G.s n9) ∧ (∀ k9 x9, (sp_flR G.L G.E G.s n9)[k9]? = some x9 → M'.1 160 k9 = nI x9) ∧ rc_Z M' ∧ pg_fr [153, 154, 155, 156, 157, 158, 159, 160, M.2.2 0 8 + 11, M.2.2 0 8 + 14] M M')) := fun n9 hn => rc_plan hn hh (by omega) hF hL hg.s hg.l hk.l hk.s.1 hg.z
  have fin9 : ∀ {Nq : pg_M}, rc_Z Nq → pg_fr [153, 154, 155, 156, 157, 158, 159, 160, M.2.2 0 8 + 11, M.2.2 0 8 + 14] M Nq → rc_G Nq G ∧ rc_out M Nq := fun {Nq} z9 f9 => by
    have p9 : pg_pf (fun b => rc_q b ∨ b = 156 ∨ b = 157) M Nq := pg_pf.of f9 (fun b9 hb9 => by simp at hb9; unfold rc_q; omega)
    exact ⟨hg.fz p9 z9, rc_out.of p9 (fun b9 hb9 => by unfold rc_q at hb9; omega)⟩
  have none9 : ∀ {v9 : Int32}, v9 = sp_qfill G x y → ∃ v, some (Value.int v9) = some (Value.int v) ∧ (v = sp_qfill G x y ∧ rc_G M G ∧ rc_out M M) := fun {v9} e9 => ⟨v9, rfl, e9, hg, rc_out.rfl'⟩
  have small9 : ¬ x < 1 → ¬ 6 < x → ∃ n9, 0 < n9 ∧ n9 ≤ 6 ∧ x = nI n9 := fun g1 g2 => by
    have a0 : ¬ x < 0 := fun z => g1 (by rw [fa_lt] at z ⊢; have e0 : (0 : Int32).toInt = 0 := rfl; have e1 : (1 : Int32).toInt = 1 := rfl; omega)
    obtain ⟨k9, hk1, rfl⟩ := nI_of a0
    rw [show (6 : Int32) = nI 6 from rfl, nI_ltI (by omega) (by omega)] at g2
    rw [show (1 : Int32) = nI 1 from rfl, nI_ltI (by omega) (by omega)] at g1
    exact ⟨k9, by omega, by omega, rfl⟩
  have q1 : x < 1 ∨ 6 < x → sp_qfill G x y = -2 := fun z9 => by
    unfold sp_qfill
    cases hi : sp_ix 7 x with
    | none => rfl
    | some n9 =>
      obtain ⟨g1, rfl⟩ := (sp_ix_some (by decide)).mp hi
      rw [show (6 : Int32) = nI 6 from rfl, nI_ltI (by omega) (by omega), show (1 : Int32) = nI 1 from rfl, nI_ltI (by omega) (by omega)] at z9
      simp only
      rw [if_pos (by omega)]
  have q2 : ∀ n9, 0 < n9 → n9 ≤ 6 → sp_qfill G (nI n9) y = if y = -1 then nI (sp_flT G.L G.E G.s n9) else match sp_ix (G.L 4 0) y with
    | none => -2
    | some c => nI ((sp_flR G.L G.E G.s n9).getD c 0) := fun n9 g1 g2 => by
    unfold sp_qfill
    rw [sp_ix_nI (by decide) (show n9 < 7 by omega)]
    simp only
    rw [if_neg (by omega)]
    rfl
  by_cases ok9 : ¬ x < 1 ∧ ¬ 6 < x
  · obtain ⟨n9, g1, g2, rfl⟩ := small9 ok9.1 ok9.2
    refine oX10_fill (sX10_fill_0 (Q0 := fun M' => M'.1 153 9 = nI (sp_flT G.L G.E G.s n9) ∧ (∀ k9 x9, (sp_flR G.L G.E G.s n9)[k9]? = some x9 → M'.1 160 k9 = nI x9) ∧ rc_Z M' ∧ pg_fr [153, 154, 155, 156, 157, 158, 159, 160, M.2.2 0 8 + 11, M.2.2 0 8 + 14] M M') (Q1 := fun v M' => v = b2i (sp_ix (G.L 4 0) y).isSome ∧ M' = M) (Q2 := fun M' => M'.1 153 9 = nI (sp_flT G.L G.E G.s n9) ∧ (∀ k9 x9, (sp_flR G.L G.E G.s n9)[k9]? = some x9 → M'.1 160 k9 = nI x9) ∧ rc_Z M' ∧ pg_fr [153, 154, 155, 156, 157, 158, 159, 160, M.2.2 0 8 + 11, M.2.2 0 8 + 14] M M') hF.x10 hF.x3 hL (fun c => absurd c ok9.1) (fun _ c => absurd c ok9.2) (fun _ _ _ => plan9 n9 g2) (fun _ _ e _ _ ne => absurd e ne) (fun _ _ e _ _ ne => absurd e ne) ?_ (fun _ _ _ => rc_has' hL hg.l hk.l) ?_ ?_ ?_ (fun _ _ ne _ _ _ _ _ _ e => absurd e ne) ?_)
    · rintro _ _ e9 Mq6 ⟨y1, y2, y3, y4⟩ _
      refine ⟨_, rfl, ?_, fin9 y3 y4⟩
      rw [q2 n9 g1 g2, if_pos e9, y1]
    · rintro _ _ ne vq Mq5 ⟨rfl, e5⟩ _
      rw [e5]
      exact plan9 n9 g2
    · rintro _ _ ne vq Mq5 ⟨rfl, e5⟩ q9 Mq6 _ _
      rw [b2i_0, Bool.not_eq_false] at q9
      obtain ⟨c9, hc9⟩ := Option.isSome_iff_exists.mp q9
      obtain ⟨y1, rfl⟩ := (sp_ix_some (by omega)).mp hc9
      exact vp_in_nI (by omega) (by decide)
    · rintro _ _ ne vq Mq5 ⟨rfl, e5⟩ q9 Mq6 ⟨y1, y2, y3, y4⟩ _
      rw [b2i_0, Bool.not_eq_false] at q9
      obtain ⟨c9, hc9⟩ := Option.isSome_iff_exists.mp q9
      obtain ⟨y5, rfl⟩ := (sp_ix_some (by omega)).mp hc9
      refine ⟨_, rfl, ?_, fin9 y3 y4⟩
      rw [q2 n9 g1 g2, if_neg ne, hc9, nI_clamp (by omega)]
      have hlen : (sp_flR G.L G.E G.s n9).length = G.L 4 0 := sp_fr_len _ _ _ _
      refine y2 c9 _ ?_
      rw [List.getElem?_eq_getElem (by omega)]; simp [show c9 < (sp_flR G.L G.E G.s n9).length by omega]
    · rintro _ _ ne vq Mq5 ⟨rfl, e5⟩ q9
      rw [b2i_0] at q9
      rw [e5]
      refine none9 ?_
      rw [q2 n9 g1 g2, if_neg ne]
      cases hi : sp_ix (G.L 4 0) y with
      | none => rfl
      | some c9 => rw [hi] at q9; cases q9
  · have bad9 : x < 1 ∨ 6 < x := by
      by_cases z9 : x < 1
      · exact Or.inl z9
      · by_cases z8 : 6 < x
        · exact Or.inr z8
        · exact absurd ⟨z9, z8⟩ ok9
    have no9 : ¬ x < 1 → ¬ 6 < x → False := fun g1 g2 => ok9 ⟨g1, g2⟩
    exact oX10_fill (sX10_fill_0 (Q0 := fun _ => True) (Q1 := fun _ _ => True) (Q2 := fun _ => True) hF.x10 hF.x3 hL (fun _ => none9 (q1 bad9).symm) (fun _ _ => none9 (q1 bad9).symm) (fun g1 g2 => (no9 g1 g2).elim) (fun g1 g2 => (no9 g1 g2).elim) (fun g1 g2 => (no9 g1 g2).elim) (fun g1 g2 => (no9 g1 g2).elim) (fun g1 g2 => (no9 g1 g2).elim) (fun g1 g2 => (no9 g1 g2).elim) (fun g1 g2 => (no9 g1 g2).elim) (fun g1 g2 => (no9 g1 g2).elim) (fun g1 g2 => (no9 g1 g2).elim) (fun g1 g2 => (no9 g1 g2).elim))
end PGR
