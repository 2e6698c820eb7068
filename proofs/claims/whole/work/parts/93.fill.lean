/-! fill: the class's first choice, and the row -/
section PGR
variable {S : pg_S} {Λ : pg_L} {d h l : Nat} {M : pg_M} {G : sp_G} {L s : sp_N} {E : sp_E}
theorem rc_firstChoice {U9 c9 u9 p9 T9 snd9 r9 : Nat} {ch9 : Nat → Nat → Bool} (hr9 : c9 + (r9 + 1) = L 4 0) (hU : ∀ i, U9.testBit i = true → i < c9) (hu9 : u9 < 256) (hp9 : p9 ≤ 8) (hs9 : snd9 < 2 ^ p9) (hsn : ∀ c9 b9, ch9 c9 b9 = true → sp_sub b9 snd9 = 0) (hwU : sp_wS (L 1) (L 4 0) U9 ≤ L 4 1) (hvU : sp_wS (L 3) (L 4 0) U9 + sp_fb ch9 (L 1) (L 3) (r9 + 1) c9 (sp_sub snd9 u9) (L 4 1 - sp_wS (L 1) (L 4 0) U9) = T9) (hF : pg_full Λ) (hL : pg_isX5 Λ l) (hl : rc_L M l L E) (hk : sp_okL L E) (hmk : M.1 153 8 = nI (2 ^ p9)) (hst : M.1 153 7 = nI (2 ^ L 4 0)) (hT : M.1 153 9 = nI T9) (hT9 : T9 < 2 ^ 30) (hcc : rc_cc M (L 4 0) ch9) (ht : rc_tab M L ch9 (2 ^ L 4 0)) : pg_Ev S Λ YX3_firstChoice (d + 3) [.ref 153, .ref l, .int (nI (U9 ||| 2 ^ c9)), .int (nI c9), .int (nI u9)] M (fun r M' => ∃ v, r = some (.int v) ∧ (v = nI ((sp_fc ch9 (L 1) (L 3) r9 c9 (sp_sub snd9 u9) (L 4 1 - sp_wS (L 1) (L 4 0) U9)).getD 0) ∧ M' = M)) := by
  have h6 := hk.1
  have hcN : c9 < L 4 0 := by omega
  have p8 : 2 ^ p9 ≤ 2 ^ 8 := Nat.pow_le_pow_right (by decide) hp9
  obtain ⟨c155, c70, c154⟩ := hcc c9 hcN
  have hcl : (nI c9).toNatClampNeg = c9 := nI_clamp (by omega)
  have e70 : nI c9 * 70 = nI (70 * c9 + 0) := by rw [show (70 : Int32) = nI 70 from rfl, pk_mul, Nat.mul_comm, Nat.add_zero]
  have h256 : ∀ c9 b9, ch9 c9 b9 = true → b9 < 256 := fun e9 b9 hb => by have := sp_sub_lt (hsn e9 b9 hb) hs9; omega
  have djU : ∀ i, U9.testBit i = true → (2 ^ c9).testBit i = false := fun i hi => by
    have := hU i hi
    rw [Nat.testBit_two_pow, decide_eq_false (by omega)]
  have wU1 : sp_wS (L 1) (L 4 0) (U9 ||| 2 ^ c9) = sp_wS (L 1) (L 4 0) U9 + L 1 c9 := by rw [sp_wS_or djU, sp_wS_one hcN]
  have wU3 : sp_wS (L 3) (L 4 0) (U9 ||| 2 ^ c9) = sp_wS (L 3) (L 4 0) U9 + L 3 c9 := by rw [sp_wS_or djU, sp_wS_one hcN]
  have hU2 : ∀ i, (U9 ||| 2 ^ c9).testBit i = true → i < c9 + 1 := fun i hi => by
    rw [fb_bit_set, Bool.or_eq_true, decide_eq_true_eq] at hi
    rcases hi with hi | hi
    · have := hU i hi; omega
    · omega
  have key : ∀ b9, ch9 c9 b9 = true → ((b9 &&& u9 = 0 ∧ sp_end ch9 L T9 (c9 + 1) (U9 ||| 2 ^ c9) (u9 ||| b9)) ↔ (sp_fp ch9 (L 1) c9 (sp_sub snd9 u9) (L 4 1 - sp_wS (L 1) (L 4 0) U9) b9 && decide (L 3 c9 + sp_fb ch9 (L 1) (L 3) r9 (c9 + 1) (sp_sub (sp_sub snd9 u9) b9) (L 4 1 - sp_wS (L 1) (L 4 0) U9 - L 1 c9) = sp_fb ch9 (L 1) (L 3) (r9 + 1) c9 (sp_sub snd9 u9) (L 4 1 - sp_wS (L 1) (L 4 0) U9))) = true) := fun b9 hb => by
    have hbs := hsn c9 b9 hb
    have hfr : b9 &&& u9 = 0 ↔ sp_sub b9 (sp_sub snd9 u9) = 0 := by
      rw [sp_and_bits, sp_sub_0]
      constructor
      · intro z9 i9 hi
        rw [sp_sub_bit, sp_sub_0.mp hbs i9 hi, z9 i9 hi]; rfl
      · intro z9 i9 hi
        have := z9 i9 hi
        rw [sp_sub_bit, Bool.and_eq_true] at this
        have t2 := this.2
        cases q9 : u9.testBit i9 with
        | false => rfl
        | true => rw [q9] at t2; exact absurd t2 (by decide)
    have lb : sp_fp ch9 (L 1) c9 (sp_sub snd9 u9) (L 4 1 - sp_wS (L 1) (L 4 0) U9) b9 = true → L 3 c9 + sp_fb ch9 (L 1) (L 3) r9 (c9 + 1) (sp_sub (sp_sub snd9 u9) b9) (L 4 1 - sp_wS (L 1) (L 4 0) U9 - L 1 c9) ≤ sp_fb ch9 (L 1) (L 3) (r9 + 1) c9 (sp_sub snd9 u9) (L 4 1 - sp_wS (L 1) (L 4 0) U9) := fun hP =>
      sp_fm_lb (f := fun b => L 3 c9 + sp_fb ch9 (L 1) (L 3) r9 (c9 + 1) (sp_sub (sp_sub snd9 u9) b) (L 4 1 - sp_wS (L 1) (L 4 0) U9 - L 1 c9)) (z := sp_fb ch9 (L 1) (L 3) r9 (c9 + 1) (sp_sub snd9 u9) (L 4 1 - sp_wS (L 1) (L 4 0) U9)) 256 b9 (h256 c9 b9 hb) hP
    have hsu : sp_sub snd9 (u9 ||| b9) = sp_sub (sp_sub snd9 u9) b9 := sp_sub_sub
    have hPiff : sp_fp ch9 (L 1) c9 (sp_sub snd9 u9) (L 4 1 - sp_wS (L 1) (L 4 0) U9) b9 = true ↔ (sp_sub b9 (sp_sub snd9 u9) = 0 ∧ L 1 c9 ≤ L 4 1 - sp_wS (L 1) (L 4 0) U9) := by
      unfold sp_fp
      rw [hb]
      simp only [Bool.true_and, Bool.and_eq_true, decide_eq_true_eq]
    have hyy : L 4 1 - sp_wS (L 1) (L 4 0) (U9 ||| 2 ^ c9) = L 4 1 - sp_wS (L 1) (L 4 0) U9 - L 1 c9 := by rw [wU1]; omega
    rw [Bool.and_eq_true, decide_eq_true_eq]
    constructor
    · rintro ⟨g1, g2⟩
      have iff9 := sp_end_iff (w := L 1) (v := L 3) (N := L 4 0) (Y := L 4 1) (T := T9) (r := r9) (c := c9 + 1) (U := U9 ||| 2 ^ c9) (u := u9 ||| b9) h256 hsn (by omega) (by omega) hU2 (fun z9 => by
        have hP := hPiff.mpr ⟨hfr.mp g1, by omega⟩
        have := lb hP
        rw [hsu, hyy, wU3]; omega)
      obtain ⟨y1, y2⟩ := iff9.mp g2
      have hP := hPiff.mpr ⟨hfr.mp g1, by omega⟩
      rw [hsu, hyy, wU3] at y2
      exact ⟨hP, by omega⟩
    · rintro ⟨hP, y2⟩
      obtain ⟨y3, y4⟩ := hPiff.mp hP
      have iff9 := sp_end_iff (w := L 1) (v := L 3) (N := L 4 0) (Y := L 4 1) (T := T9) (r := r9) (c := c9 + 1) (U := U9 ||| 2 ^ c9) (u := u9 ||| b9) h256 hsn (by omega) (by omega) hU2 (fun z9 => by
        have := lb hP
        rw [hsu, hyy, wU3]; omega)
      exact ⟨hfr.mpr y3, iff9.mpr ⟨by omega, by rw [hsu, hyy, wU3]; omega⟩⟩
  unfold sp_fc
  generalize hp : (fun b => sp_fp ch9 (L 1) c9 (sp_sub snd9 u9) (L 4 1 - sp_wS (L 1) (L 4 0) U9) b && decide (L 3 c9 + sp_fb ch9 (L 1) (L 3) r9 (c9 + 1) (sp_sub (sp_sub snd9 u9) b) (L 4 1 - sp_wS (L 1) (L 4 0) U9 - L 1 c9) = sp_fb ch9 (L 1) (L 3) (r9 + 1) c9 (sp_sub snd9 u9) (L 4 1 - sp_wS (L 1) (L 4 0) U9))) = pb9
  have key2 : ∀ b9, ch9 c9 b9 = true → ((b9 &&& u9 = 0 ∧ sp_end ch9 L T9 (c9 + 1) (U9 ||| 2 ^ c9) (u9 ||| b9)) ↔ pb9 b9 = true) := fun b9 hb => by rw [← hp]; exact key b9 hb
  have pch : ∀ b9, pb9 b9 = true → ch9 c9 b9 = true := fun b9 hb => by
    rw [← hp] at hb
    simp only [Bool.and_eq_true] at hb
    have := hb.1
    unfold sp_fp at this
    simp only [Bool.and_eq_true] at this
    exact this.1
  clear key hp
  refine oX3_firstChoice (sX3_firstChoice_0 ?_)
  rw [e70]
  refine pg_loop (fun i9 (mq : pg_M) => pg_At S Λ YX3_firstChoice (d + 3) 10 [(0, .ref 153), (1, .ref l), (2, .int (nI (U9 ||| 2 ^ c9))), (3, .int (nI c9)), (4, .int (nI u9)), (5, .int (nI (70 * c9 + 0))), (6, .int (nI (70 * c9 + i9)))] [] mq _) (fun i9 mq => mq = M ∧ ∀ b9, b9 < 256 → ch9 c9 b9 = true → fb_ct (ch9 c9) b9 < i9 → pb9 b9 = false) (fb_ct (ch9 c9) 256) ?_ ?_ 0 M (Nat.zero_le _) ⟨rfl, fun b9 _ _ z9 => absurd z9 (Nat.not_lt_zero _)⟩
  · rintro mq ⟨em, a1⟩
    rw [em]
    have cq : nI (70 * c9 + 0) + M.1 155 (nI c9).toNatClampNeg ≤ nI (70 * c9 + fb_ct (ch9 c9) 256) := by
      rw [hcl, c155, nI_add]; exact nI_le (by omega) (by omega)
    refine sX3_firstChoice_10 (Q0 := fun _ _ => True) hF.x3 (vp_in_nI (by omega) (by decide)) (fun _ => ⟨_, rfl, ?_, rfl⟩) (fun c => absurd cq c) (fun c => absurd cq c) (fun c => absurd cq c) (fun c => absurd cq c) (fun c => absurd cq c)
    have : (List.range 256).find? pb9 = none := by
      rw [List.find?_eq_none]
      intro b9 hb9 hp9
      rw [List.mem_range] at hb9
      have hc := pch b9 hp9
      have t1 : fb_ct (ch9 c9) (b9 + 1) = fb_ct (ch9 c9) b9 + 1 := by rw [fb_ct_succ, hc]; rfl
      have t2 := fb_ct_mono (ch9 c9) (show b9 + 1 ≤ 256 by omega)
      rw [a1 b9 hb9 hc (by omega)] at hp9
      cases hp9
    rw [this]; rfl
  · rintro i9 mq hi9 ⟨em, a1⟩ ihq
    rw [em]
    obtain ⟨b9, b1, b2, b3⟩ := fb_ct_kth hi9
    have cq : ¬ nI (70 * c9 + 0) + M.1 155 (nI c9).toNatClampNeg ≤ nI (70 * c9 + i9) := by
      rw [hcl, c155, nI_add]; exact nI_ge (by omega) (by omega)
    have e154 : M.1 154 (nI (70 * c9 + i9)).toNatClampNeg = nI b9 := by
      rw [nI_clamp (by omega), ← b3]; exact c154 b9 b1 b2
    have hand : (nI b9 &&& nI u9 = 0) ↔ b9 &&& u9 = 0 := by
      rw [fa_and, ← nI_0, nI_eq (Nat.lt_of_le_of_lt Nat.and_le_left (by omega)) (by omega)]
    have hw9 : u9 ||| b9 < 256 := Nat.or_lt_two_pow (n := 8) hu9 b1
    have skip9 : pb9 b9 = false → ∀ f9, f9 < 256 → ch9 c9 f9 = true → fb_ct (ch9 c9) f9 < i9 + 1 → pb9 f9 = false := fun z9 f9 g1 g2 g3 => by
      by_cases y9 : fb_ct (ch9 c9) f9 = i9
      · rw [fb_ct_kth_one g2 b2 (by omega)]; exact z9
      · exact a1 f9 g1 g2 (by omega)
    refine sX3_firstChoice_10 (Q0 := fun v M' => sp_yn v (sp_end ch9 L T9 (c9 + 1) (U9 ||| 2 ^ c9) (u9 ||| b9)) ∧ M' = M) hF.x3 (vp_in_nI (by omega) (by decide)) (fun c => absurd c cq) (fun _ => vp_in_nI (by omega) (by decide)) ?_ ?_ ?_ ?_
    · intro _ q9
      rw [e154, hand] at q9
      rw [nI_1]
      exact ihq _ ⟨rfl, skip9 (ts_nt (fun z9 => q9 ((key2 b9 b2).mpr z9).1))⟩
    · intro _ q9
      rw [e154, nI_1, fa_or]
      exact rc_canEnd (by omega) hU2 hw9 hp9 hs9 hsn hF hL hl hk hmk hst hT hT9 ht
    · rintro _ q8 vq Mq5 ⟨yn, e5⟩ q9
      rw [nI_1]
      exact ihq _ ⟨e5, skip9 (ts_nt (fun z9 => sp_yn_0 yn q9 ((key2 b9 b2).mpr z9).2))⟩
    · rintro _ q8 vq Mq5 ⟨yn, e5⟩ q9
      rw [e154, hand] at q8
      rw [e5, e154]
      refine ⟨_, rfl, ?_, rfl⟩
      have hpb : pb9 b9 = true := (key2 b9 b2).mp ⟨q8, sp_yn_1 yn q9⟩
      have : (List.range 256).find? pb9 = some b9 := by
        rw [List.find?_range_eq_some]
        refine ⟨hpb, by simpa using b1, fun j9 hj => ?_⟩
        cases y9 : pb9 j9 with
        | false => rfl
        | true =>
          have hc := pch j9 y9
          have t1 : fb_ct (ch9 c9) (j9 + 1) = fb_ct (ch9 c9) j9 + 1 := by rw [fb_ct_succ, hc]; rfl
          have t2 := fb_ct_mono (ch9 c9) (show j9 + 1 ≤ b9 by omega)
          rw [a1 j9 (by omega) hc (by omega)] at y9
          cases y9
      rw [this]; rfl
/-- the row that the class lays -/
theorem rc_layRow {p9 T9 snd9 : Nat} {ch9 : Nat → Nat → Bool} (hl9 : 169 ≤ l) (hp9 : p9 ≤ 8) (hs9 : snd9 < 2 ^ p9) (hsn : ∀ c9 b9, ch9 c9 b9 = true → sp_sub b9 snd9 = 0) (h00 : ∀ c9, ch9 c9 0 = false) (hvU : sp_fb ch9 (L 1) (L 3) (L 4 0) 0 snd9 (L 4 1) = T9) (hF : pg_full Λ) (hL : pg_isX5 Λ l) (hl : rc_L M l L E) (hk : sp_okL L E) (hmk : M.1 153 8 = nI (2 ^ p9)) (hst : M.1 153 7 = nI (2 ^ L 4 0)) (hT : M.1 153 9 = nI T9) (hT9 : T9 < 2 ^ 30) (hcc : rc_cc M (L 4 0) ch9) (ht : rc_tab M L ch9 (2 ^ L 4 0)) : pg_Ev S Λ YX3_layRow (d + 4) [.ref 153, .ref l] M (fun r M' => r = none ∧ ((∀ k9 x9, (sp_fr ch9 (L 1) (L 3) (L 4 0) 0 snd9 (L 4 1))[k9]? = some x9 → M'.1 160 k9 = nI x9) ∧ pg_fr [160] M M')) := by
  have h6 := hk.1
  have p8 : 2 ^ p9 ≤ 2 ^ 8 := Nat.pow_le_pow_right (by decide) hp9
  have h256 : ∀ c9 b9, ch9 c9 b9 = true → b9 < 256 := fun e9 b9 hb => by have := sp_sub_lt (hsn e9 b9 hb) hs9; omega
  have hlen := sp_fr_len (ch := ch9) (w := L 1) (v := L 3) (L 4 0) 0 snd9 (L 4 1)
  refine oX3_layRow (sX3_layRow_0 ?_)
  have ss0 : sp_sub snd9 0 = snd9 := by
    apply Nat.eq_of_testBit_eq
    intro i9
    rw [sp_sub_bit, Nat.zero_testBit]; simp
  refine pg_loop (σ := pg_M × Nat × Nat) (fun c9 mq => pg_At S Λ YX3_layRow (d + 4) 7 [(0, .ref 153), (1, .ref l), (2, .int (nI mq.2.1)), (3, .int (nI mq.2.2)), (4, .int (nI c9))] [] mq.1 _) (fun c9 mq => (∀ k9 x9, k9 < c9 → (sp_fr ch9 (L 1) (L 3) (L 4 0) 0 snd9 (L 4 1))[k9]? = some x9 → mq.1.1 160 k9 = nI x9) ∧ (∀ k9, (sp_fr ch9 (L 1) (L 3) (L 4 0 - c9) c9 (sp_sub snd9 mq.2.2) (L 4 1 - sp_wS (L 1) (L 4 0) mq.2.1))[k9]? = (sp_fr ch9 (L 1) (L 3) (L 4 0) 0 snd9 (L 4 1))[c9 + k9]?) ∧ (∀ i, mq.2.1.testBit i = true → i < c9) ∧ mq.2.2 < 256 ∧ sp_wS (L 1) (L 4 0) mq.2.1 ≤ L 4 1 ∧ sp_wS (L 3) (L 4 0) mq.2.1 + sp_fb ch9 (L 1) (L 3) (L 4 0 - c9) c9 (sp_sub snd9 mq.2.2) (L 4 1 - sp_wS (L 1) (L 4 0) mq.2.1) = T9 ∧ pg_fr [160] M mq.1) (L 4 0) ?_ ?_ 0 (M, 0, 0) (Nat.zero_le _) ⟨fun k9 _ hk9 => absurd hk9 (Nat.not_lt_zero _), fun k9 => by simp only [ss0, sp_wS_0, Nat.sub_zero, Nat.zero_add], fun i hi => (by rw [Nat.zero_testBit] at hi; cases hi), (show (0 : Nat) < 256 by decide), by simp only [sp_wS_0]; omega, by simp only [ss0, sp_wS_0, Nat.sub_zero, Nat.zero_add]; exact hvU, pg_fr.rfl'⟩
  · rintro ⟨mq, U9, u9⟩ ⟨a1, a2, a3, a4, a5, a6, a7⟩
    simp only at a1 a2 a3 a4 a5 a6 a7 ⊢
    have cq : mq.1 l 10 ≤ nI (L 4 0) := by rw [a7.1 l (by simp; omega), hl.1]; exact nI_le (Nat.le_refl _) (by omega)
    refine sX3_layRow_7 (Q0 := fun _ _ => True) hL hF.x3 (fun _ => ⟨rfl, fun k9 x9 hx => a1 k9 x9 ?_ hx, a7⟩) (fun c => absurd cq c) (fun c => absurd cq c) (fun c => absurd cq c) (fun c => absurd cq c)
    have := (List.getElem?_eq_some_iff.mp hx).1
    omega
  · rintro c9 ⟨mq, U9, u9⟩ hc9 ⟨a1, a2, a3, a4, a5, a6, a7⟩ ihq
    simp only at a1 a2 a3 a4 a5 a6 a7 ⊢
    have cq : ¬ mq.1 l 10 ≤ nI c9 := by rw [a7.1 l (by simp; omega), hl.1]; exact nI_ge hc9 (by omega)
    have hcl : (nI c9).toNatClampNeg = c9 := nI_clamp (by omega)
    obtain ⟨r9, hr9⟩ : ∃ r9, L 4 0 - c9 = r9 + 1 := ⟨L 4 0 - c9 - 1, by omega⟩
    have hr8 : L 4 0 - (c9 + 1) = r9 := by omega
    rw [hr9] at a2 a6
    have lq := hl.keep a7 (fun j9 g1 g2 g3 => by simp; omega)
    have fc := rc_firstChoice (S := S) (Λ := Λ) (d := d) (M := mq) (p9 := p9) (T9 := T9) (snd9 := snd9) (U9 := U9) (c9 := c9) (u9 := u9) (r9 := r9) (ch9 := ch9) (by omega) a3 a4 hp9 hs9 hsn a5 a6 hF hL lq hk (by rw [a7.1 153 (by decide)]; exact hmk) (by rw [a7.1 153 (by decide)]; exact hst) (by rw [a7.1 153 (by decide)]; exact hT) hT9 (hcc.fr (a7.1 154 (by decide)) (a7.1 155 (by decide))) (ht.fr (a7.1 156 (by decide)) (a7.1 157 (by decide)) (a7.1 158 (by decide)) (a7.2.1 159 (by decide)))
    have fru : sp_fr ch9 (L 1) (L 3) (r9 + 1) c9 (sp_sub snd9 u9) (L 4 1 - sp_wS (L 1) (L 4 0) U9) = match sp_fc ch9 (L 1) (L 3) r9 c9 (sp_sub snd9 u9) (L 4 1 - sp_wS (L 1) (L 4 0) U9) with
      | some b => b :: sp_fr ch9 (L 1) (L 3) r9 (c9 + 1) (sp_sub (sp_sub snd9 u9) b) (L 4 1 - sp_wS (L 1) (L 4 0) U9 - L 1 c9)
      | none => 0 :: sp_fr ch9 (L 1) (L 3) r9 (c9 + 1) (sp_sub snd9 u9) (L 4 1 - sp_wS (L 1) (L 4 0) U9) := rfl
    have fbu : sp_fb ch9 (L 1) (L 3) (r9 + 1) c9 (sp_sub snd9 u9) (L 4 1 - sp_wS (L 1) (L 4 0) U9) = sp_fm (sp_fp ch9 (L 1) c9 (sp_sub snd9 u9) (L 4 1 - sp_wS (L 1) (L 4 0) U9)) (fun b => L 3 c9 + sp_fb ch9 (L 1) (L 3) r9 (c9 + 1) (sp_sub (sp_sub snd9 u9) b) (L 4 1 - sp_wS (L 1) (L 4 0) U9 - L 1 c9)) (sp_fb ch9 (L 1) (L 3) r9 (c9 + 1) (sp_sub snd9 u9) (L 4 1 - sp_wS (L 1) (L 4 0) U9)) 256 := rfl
    have row9 : ∀ (x9 : Nat) (tl9 : List Nat), sp_fr ch9 (L 1) (L 3) (r9 + 1) c9 (sp_sub snd9 u9) (L 4 1 - sp_wS (L 1) (L 4 0) U9) = x9 :: tl9 → (∀ k9 y9, k9 < c9 + 1 → (sp_fr ch9 (L 1) (L 3) (L 4 0) 0 snd9 (L 4 1))[k9]? = some y9 → (pg_si mq 160 c9 (nI x9)).1 160 k9 = nI y9) ∧ ∀ k9, tl9[k9]? = (sp_fr ch9 (L 1) (L 3) (L 4 0) 0 snd9 (L 4 1))[c9 + 1 + k9]? := fun x9 tl9 e9 => by
      rw [e9] at a2
      refine ⟨fun k9 y9 hk9 hy => ?_, fun k9 => ?_⟩
      · rw [pg_si_at]
        by_cases z9 : k9 = c9
        · have := a2 0
          rw [Nat.add_zero, ← z9, hy, List.getElem?_cons_zero] at this
          rw [z9, pk_us, Option.some.inj this]
        · rw [pk_un z9]; exact a1 k9 y9 (by omega) hy
      · have := a2 (k9 + 1)
        rw [List.getElem?_cons_succ] at this
        rw [this, show c9 + (k9 + 1) = c9 + 1 + k9 by omega]
    rw [hr8] at ihq
    refine sX3_layRow_7 (Q0 := fun v M' => v = nI ((sp_fc ch9 (L 1) (L 3) r9 c9 (sp_sub snd9 u9) (L 4 1 - sp_wS (L 1) (L 4 0) U9)).getD 0) ∧ M' = mq) hL hF.x3 (fun c => absurd c cq) (fun _ => ?_) (fun _ _ _ _ => vp_in_nI (by omega) (by decide)) ?_ ?_
    · rw [nb_set (by omega)]; exact fc
    · rintro _ vq Mq5 ⟨rfl, e5⟩ q9
      rw [e5, hcl, nI_1]
      cases hq : sp_fc ch9 (L 1) (L 3) r9 c9 (sp_sub snd9 u9) (L 4 1 - sp_wS (L 1) (L 4 0) U9) with
      | some b9 =>
        rw [hq] at q9
        unfold sp_fc at hq
        rw [List.find?_range_eq_some] at hq
        obtain ⟨g1, g2, _⟩ := hq
        rw [List.mem_range] at g2
        simp only [Bool.and_eq_true] at g1
        have g3 := g1.1
        unfold sp_fp at g3
        simp only [Bool.and_eq_true] at g3
        have : b9 = 0 := by
          rw [Option.getD_some, ← nI_0, nI_eq (by omega) (by omega)] at q9; exact q9
        rw [this, h00] at g3
        cases g3.1
      | none =>
        rw [hq] at fru
        obtain ⟨y1, y2⟩ := row9 0 _ fru
        refine ihq (pg_si mq 160 c9 (nI 0), U9, u9) ⟨y1, y2, fun i hi => by have := a3 i hi; omega, a4, a5, ?_, a7.trans (pg_fr.si (by simp))⟩
        rw [← a6, fbu]
        show _ + _ = _
        congr 1
        rcases Nat.lt_or_ge (sp_fb ch9 (L 1) (L 3) r9 (c9 + 1) (sp_sub snd9 u9) (L 4 1 - sp_wS (L 1) (L 4 0) U9)) (sp_fm (sp_fp ch9 (L 1) c9 (sp_sub snd9 u9) (L 4 1 - sp_wS (L 1) (L 4 0) U9)) (fun b => L 3 c9 + sp_fb ch9 (L 1) (L 3) r9 (c9 + 1) (sp_sub (sp_sub snd9 u9) b) (L 4 1 - sp_wS (L 1) (L 4 0) U9 - L 1 c9)) (sp_fb ch9 (L 1) (L 3) r9 (c9 + 1) (sp_sub snd9 u9) (L 4 1 - sp_wS (L 1) (L 4 0) U9)) 256) with z9 | z9
        · obtain ⟨b9, g1, g2, g3⟩ := sp_fm_at 256 z9
          exfalso
          unfold sp_fc at hq
          rw [List.find?_eq_none] at hq
          refine hq b9 (List.mem_range.mpr g1) ?_
          rw [g2, fbu, ← g3]; simp
        · have := sp_fm_zle (P := sp_fp ch9 (L 1) c9 (sp_sub snd9 u9) (L 4 1 - sp_wS (L 1) (L 4 0) U9)) (f := fun b => L 3 c9 + sp_fb ch9 (L 1) (L 3) r9 (c9 + 1) (sp_sub (sp_sub snd9 u9) b) (L 4 1 - sp_wS (L 1) (L 4 0) U9 - L 1 c9)) (z := sp_fb ch9 (L 1) (L 3) r9 (c9 + 1) (sp_sub snd9 u9) (L 4 1 - sp_wS (L 1) (L 4 0) U9)) 256
          exact Nat.le_antisymm this z9
    · rintro _ vq Mq5 ⟨rfl, e5⟩ q9
      rw [e5, hcl, nI_1, nb_set (by omega)]
      cases hq : sp_fc ch9 (L 1) (L 3) r9 c9 (sp_sub snd9 u9) (L 4 1 - sp_wS (L 1) (L 4 0) U9) with
      | none => rw [hq] at q9; exact absurd rfl q9
      | some b9 =>
        rw [hq] at fru
        rw [Option.getD_some, fa_or]
        obtain ⟨y1, y2⟩ := row9 b9 _ fru
        unfold sp_fc at hq
        rw [List.find?_range_eq_some] at hq
        obtain ⟨g1, g2, _⟩ := hq
        rw [List.mem_range] at g2
        rw [Bool.and_eq_true, decide_eq_true_eq] at g1
        obtain ⟨g1, g4⟩ := g1
        have g3 := g1
        unfold sp_fp at g3
        simp only [Bool.and_eq_true, decide_eq_true_eq] at g3
        have djU : ∀ i, U9.testBit i = true → (2 ^ c9).testBit i = false := fun i hi => by
          have := a3 i hi
          rw [Nat.testBit_two_pow, decide_eq_false (by omega)]
        have wU1 : sp_wS (L 1) (L 4 0) (U9 ||| 2 ^ c9) = sp_wS (L 1) (L 4 0) U9 + L 1 c9 := by rw [sp_wS_or djU, sp_wS_one hc9]
        have wU3 : sp_wS (L 3) (L 4 0) (U9 ||| 2 ^ c9) = sp_wS (L 3) (L 4 0) U9 + L 3 c9 := by rw [sp_wS_or djU, sp_wS_one hc9]
        have hyy : L 4 1 - sp_wS (L 1) (L 4 0) (U9 ||| 2 ^ c9) = L 4 1 - sp_wS (L 1) (L 4 0) U9 - L 1 c9 := by rw [wU1]; omega
        have hsu : sp_sub snd9 (u9 ||| b9) = sp_sub (sp_sub snd9 u9) b9 := sp_sub_sub
        refine ihq (pg_si mq 160 c9 (nI b9), U9 ||| 2 ^ c9, u9 ||| b9) ⟨y1, ?_, fun i hi => ?_, Nat.or_lt_two_pow (n := 8) a4 g2, ?_, ?_, a7.trans (pg_fr.si (by simp))⟩
        · simp only [hsu, hyy]; exact y2
        · simp only [fb_bit_set, Bool.or_eq_true, decide_eq_true_eq] at hi
          rcases hi with hi | hi
          · have := a3 i hi; omega
          · omega
        · simp only [wU1]; omega
        · simp only [hsu, hyy, wU3]
          rw [← a6, ← g4]; omega
end PGR
