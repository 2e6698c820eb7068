/-! fill: the class's table of sets -/
theorem rc_hb_set {M : pg_M} {A9 w9 B9 x9 : Nat} (hw : w9 < 256) (hx : x9 < 256) : rc_hb (pg_sj M 159 (4 * A9 + w9 / 64) (M.2.1 159 (4 * A9 + w9 / 64) ||| ((1 : Int64) <<< ((nI (w9 % 64)).toInt64 &&& 63)))) B9 x9 = (rc_hb M B9 x9 || decide (B9 = A9 ∧ x9 = w9)) := by
  have e1 : ((1 : Int64) <<< ((nI (w9 % 64)).toInt64 &&& 63)) = lN (2 ^ (w9 % 64)) := by
    rw [show (1 : Int64) = lN 1 from rfl, wb_shl 1 (by omega), Nat.one_mul]
  have e2 : (lN (2 ^ (w9 % 64))).toBitVec = BitVec.ofNat 64 (2 ^ (w9 % 64)) := rfl
  unfold rc_hb
  rw [pg_sj_at]
  by_cases q9 : 4 * B9 + x9 / 64 = 4 * A9 + w9 / 64
  · have hB : B9 = A9 := by omega
    rw [q9, pk_uLs, e1, Int64.toBitVec_or, BitVec.getLsbD_or, e2, BitVec.getLsbD_ofNat, Nat.testBit_two_pow]
    have h1 : x9 % 64 < 64 := Nat.mod_lt _ (by decide)
    have h2 : (w9 % 64 = x9 % 64) ↔ (B9 = A9 ∧ x9 = w9) := by
      constructor
      · intro z9; exact ⟨hB, by omega⟩
      · rintro ⟨_, z9⟩; rw [z9]
    rw [decide_eq_true h1, Bool.true_and, decide_eq_decide.mpr h2]
  · rw [pk_uLn q9]
    have : ¬ (B9 = A9 ∧ x9 = w9) := fun z9 => by apply q9; rw [z9.1, z9.2]
    rw [decide_eq_false this, Bool.or_false]
theorem rc_hb_fr {M M' : pg_M} {A9 x9 : Nat} (e : M'.2.1 159 = M.2.1 159) : rc_hb M' A9 x9 = rc_hb M A9 x9 := by unfold rc_hb; rw [e]
/-- a set's word tells whether one of its bits stands -/
def rc_ch (M : pg_M) (A9 : Nat) : Prop := (M.1 158 A9 = 0 ∧ ∀ x9, x9 < 256 → rc_hb M A9 x9 = false) ∨ (M.1 158 A9 = 1 ∧ ∃ x9, x9 < 256 ∧ rc_hb M A9 x9 = true)
theorem rc_ch.iff {M : pg_M} {A9 : Nat} (hh : rc_ch M A9) : ¬ M.1 158 A9 = 0 ↔ ∃ x9, x9 < 256 ∧ rc_hb M A9 x9 = true := by
  rcases hh with ⟨h1, h2⟩ | ⟨h1, h2⟩
  · constructor
    · intro z9; exact absurd h1 z9
    · rintro ⟨x9, hx, hb⟩; rw [h2 x9 hx] at hb; cases hb
  · exact ⟨fun _ => h2, fun _ => by rw [h1]; decide⟩
/-- what a set holds more, by one mask -/
def sp_hm (P9 : Nat → Bool) (k9 i9 x9 : Nat) : Prop := ∃ b9, b9 < 256 ∧ P9 b9 = true ∧ fb_ct P9 b9 < i9 ∧ b9 &&& k9 = 0 ∧ x9 = b9 ||| k9
/-- all but one set's words are as they were -/
def rc_hs (A9 : Nat) (M M' : pg_M) : Prop := pg_fr [158, 159] M M' ∧ ∀ B9, B9 ≠ A9 → M'.1 158 B9 = M.1 158 B9 ∧ ∀ x9, x9 < 256 → rc_hb M' B9 x9 = rc_hb M B9 x9
theorem rc_hs.rfl' {A9 : Nat} {M : pg_M} : rc_hs A9 M M := ⟨pg_fr.rfl', fun _ _ => ⟨rfl, fun _ _ => rfl⟩⟩
theorem rc_hs.trans {A9 : Nat} {M Mq1 Mq2 : pg_M} (g1 : rc_hs A9 M Mq1) (g2 : rc_hs A9 Mq1 Mq2) : rc_hs A9 M Mq2 := ⟨g1.1.trans g2.1, fun B9 hB => ⟨((g2.2 B9 hB).1).trans ((g1.2 B9 hB).1), fun x9 hx => ((g2.2 B9 hB).2 x9 hx).trans ((g1.2 B9 hB).2 x9 hx)⟩⟩
section PGR
variable {S : pg_S} {Λ : pg_L} {d h l : Nat} {M : pg_M} {G : sp_G} {L s : sp_N} {E : sp_E}
theorem sp_ix6 {A9 k9 : Nat} (hA9 : A9 < 64) (hk9 : k9 < 256) : (nI A9 * 4) + (nI k9 >>> ((6 : Int32) &&& 31)) = nI (4 * A9 + k9 / 64) := by
  rw [show (6 : Int32) = nI 6 from rfl, pk_shrN (by omega) _ 6 (s_l 6 (by omega)), show (4 : Int32) = nI 4 from rfl, pk_mul, nI_add, Nat.mul_comm]
theorem sp_lo6 (k9 : Nat) : nI k9 &&& 63 = nI (k9 % 64) := fa_mask k9 6
theorem rc_holdsBy {A9 k9 : Nat} (hA9 : A9 < 64) (hk9 : k9 < 256) (hF : pg_full Λ) : pg_Ev S Λ YX3_holdsBy d [.ref 153, .int (nI A9), .int (nI k9)] M (fun r M' => ∃ v, r = some (.int v) ∧ (v = b2i (rc_hb M A9 k9) ∧ M' = M)) := by
  have bq : ((((M.2.1 159 ((nI A9 * 4) + (nI k9 >>> ((6 : Int32) &&& 31))).toNatClampNeg).toUInt64 >>> ((nI k9 &&& 63).toInt64.toUInt64 &&& Int64.toUInt64 63)).toInt64) &&& 1) = 0 ↔ rc_hb M A9 k9 = false := by
    rw [sp_ix6 hA9 hk9, nI_clamp (by omega), sp_lo6]
    exact ts_bit (Nat.mod_lt _ (by decide)) (by rw [wb_cu _ (Nat.mod_lt _ (by decide)), UInt64.toNat_ofNat']; omega)
  refine oX3_holdsBy (sX3_holdsBy_0 hF.x3 (by rw [sp_ix6 hA9 hk9]; exact vp_in_nI (by omega) (by decide)) ?_ ?_)
  · intro y9 e9 q9
    rw [lg_cmp_0, e9, bq] at q9
    exact ⟨_, rfl, by rw [q9]; rfl, rfl⟩
  · intro y9 e9 q9
    rw [lg_cmp_0, e9, bq] at q9
    have : rc_hb M A9 k9 = true := by cases z9 : rc_hb M A9 k9 with
      | true => rfl
      | false => exact absurd z9 q9
    exact ⟨_, rfl, by rw [this]; rfl, rfl⟩
/-- a set hangs by one mask more and one cloth more -/
theorem rc_holdMore {A9 c9 k9 n9 : Nat} {ch9 : Nat → Nat → Bool} (hA9 : A9 < 64) (hk9 : k9 < 256) (hc9 : c9 < n9) (hn9 : n9 ≤ 6) (hF : pg_full Λ) (hcc : rc_cc M n9 ch9) (hch : rc_ch M A9) : pg_Ev S Λ YX3_holdMore d [.ref 153, .int (nI A9), .int (nI c9), .int (nI k9)] M (fun r M' => r = none ∧ (rc_hs A9 M M' ∧ rc_ch M' A9 ∧ ∀ x9, x9 < 256 → (rc_hb M' A9 x9 = true ↔ rc_hb M A9 x9 = true ∨ sp_hm (ch9 c9) k9 256 x9))) := by
  obtain ⟨c155, c70, c154⟩ := hcc c9 hc9
  have hcl : (nI c9).toNatClampNeg = c9 := nI_clamp (by omega)
  have hAl : (nI A9).toNatClampNeg = A9 := nI_clamp (by omega)
  have e70 : nI c9 * 70 = nI (70 * c9 + 0) := by rw [show (70 : Int32) = nI 70 from rfl, pk_mul, Nat.mul_comm, Nat.add_zero]
  refine oX3_holdMore (sX3_holdMore_0 ?_)
  rw [e70]
  refine pg_loop (fun i9 (mq : pg_M) => pg_At S Λ YX3_holdMore d 10 [(0, .ref 153), (1, .int (nI A9)), (2, .int (nI c9)), (3, .int (nI k9)), (4, .int (nI (70 * c9 + 0))), (5, .int (nI (70 * c9 + i9)))] [] mq _) (fun i9 mq => rc_hs A9 M mq ∧ rc_ch mq A9 ∧ ∀ x9, x9 < 256 → (rc_hb mq A9 x9 = true ↔ rc_hb M A9 x9 = true ∨ sp_hm (ch9 c9) k9 i9 x9)) (fb_ct (ch9 c9) 256) ?_ ?_ 0 M (Nat.zero_le _) ⟨rc_hs.rfl', hch, fun x9 _ => ⟨Or.inl, fun z9 => z9.elim id (fun ⟨b9, _, _, h9, _⟩ => absurd h9 (Nat.not_lt_zero _))⟩⟩
  · rintro mq ⟨a1, a2, a3⟩
    have cq : nI (70 * c9 + 0) + mq.1 155 (nI c9).toNatClampNeg ≤ nI (70 * c9 + fb_ct (ch9 c9) 256) := by
      rw [hcl, a1.1.1 155 (by decide), c155, nI_add]; exact nI_le (by omega) (by omega)
    refine sX3_holdMore_10 hF.x3 (vp_in_nI (by omega) (by decide)) (fun _ => ⟨rfl, a1, a2, fun x9 hx => ?_⟩) (fun c => absurd cq c) (fun c => absurd cq c) (fun c => absurd cq c) (fun c => absurd cq c) (fun c => absurd cq c)
    rw [a3 x9 hx]
    constructor
    · rintro (z9 | ⟨b9, g1, g2, g3, g4⟩)
      · exact Or.inl z9
      · exact Or.inr ⟨b9, g1, g2, by omega, g4⟩
    · rintro (z9 | ⟨b9, g1, g2, g3, g4⟩)
      · exact Or.inl z9
      · refine Or.inr ⟨b9, g1, g2, ?_, g4⟩
        have t1 : fb_ct (ch9 c9) (b9 + 1) = fb_ct (ch9 c9) b9 + 1 := by rw [fb_ct_succ, g2]; rfl
        have t2 := fb_ct_mono (ch9 c9) (show b9 + 1 ≤ 256 by omega)
        omega
  · rintro i9 mq hi9 ⟨a1, a2, a3⟩ ihq
    obtain ⟨b9, b1, b2, b3⟩ := fb_ct_kth hi9
    have cq : ¬ nI (70 * c9 + 0) + mq.1 155 (nI c9).toNatClampNeg ≤ nI (70 * c9 + i9) := by
      rw [hcl, a1.1.1 155 (by decide), c155, nI_add]; exact nI_ge (by omega) (by omega)
    have e154 : mq.1 154 (nI (70 * c9 + i9)).toNatClampNeg = nI b9 := by
      rw [nI_clamp (by omega), a1.1.1 154 (by decide), ← b3]; exact c154 b9 b1 b2
    have hm9 : ∀ x9, sp_hm (ch9 c9) k9 (i9 + 1) x9 ↔ sp_hm (ch9 c9) k9 i9 x9 ∨ (b9 &&& k9 = 0 ∧ x9 = b9 ||| k9) := fun x9 => by
      constructor
      · rintro ⟨f9, g1, g2, g3, g4⟩
        by_cases z9 : fb_ct (ch9 c9) f9 = i9
        · have := fb_ct_kth_one g2 b2 (by omega)
          subst this
          exact Or.inr g4
        · exact Or.inl ⟨f9, g1, g2, by omega, g4⟩
      · rintro (⟨f9, g1, g2, g3, g4⟩ | z9)
        · exact ⟨f9, g1, g2, by omega, g4⟩
        · exact ⟨b9, b1, b2, by omega, z9⟩
    have hand : (nI b9 &&& nI k9 = 0) ↔ b9 &&& k9 = 0 := by
      rw [fa_and, ← nI_0, nI_eq (Nat.lt_of_le_of_lt Nat.and_le_left (by omega)) (by omega)]
    have hw9 : b9 ||| k9 < 256 := Nat.or_lt_two_pow (n := 8) b1 hk9
    refine sX3_holdMore_10 hF.x3 (vp_in_nI (by omega) (by decide)) (fun c => absurd c cq) (fun _ => vp_in_nI (by omega) (by decide)) ?_ ?_ ?_ ?_
    · intro _ q9
      rw [e154, hand] at q9
      rw [nI_1]
      refine ihq mq ⟨a1, a2, fun x9 hx => ?_⟩
      rw [a3 x9 hx, hm9]
      constructor
      · rintro (z9 | z9)
        · exact Or.inl z9
        · exact Or.inr (Or.inl z9)
      · rintro (z9 | z9 | z9)
        · exact Or.inl z9
        · exact Or.inr z9
        · exact absurd z9.1 q9
    · intro _ _
      rw [e154, fa_or, sp_ix6 hA9 hw9]
      exact vp_in_nI (by omega) (by decide)
    · intro _ _ y9 _; exact vp_in_nI (by omega) (by decide)
    · rintro _ q9 y9 rfl Nq2 rfl
      rw [e154, hand] at q9
      rw [e154, fa_or, sp_ix6 hA9 hw9, nI_clamp (by omega), sp_lo6, hAl, nI_1]
      have hbs : ∀ B9 x9, x9 < 256 → rc_hb (pg_si (pg_sj mq 159 (4 * A9 + (b9 ||| k9) / 64) (mq.2.1 159 (4 * A9 + (b9 ||| k9) / 64) ||| ((1 : Int64) <<< ((nI ((b9 ||| k9) % 64)).toInt64 &&& 63)))) 158 A9 (vp_nar .boolean 1)) B9 x9 = (rc_hb mq B9 x9 || decide (B9 = A9 ∧ x9 = b9 ||| k9)) := fun B9 x9 hx => by
        rw [← rc_hb_set hw9 hx]; rfl
      refine ihq _ ⟨a1.trans ⟨(pg_fr.sj (by simp)).trans (pg_fr.si (by simp)), fun B9 hB => ⟨?_, fun x9 hx => ?_⟩⟩, Or.inr ⟨?_, b9 ||| k9, hw9, ?_⟩, fun x9 hx => ?_⟩
      · rw [pg_si_at, pk_un hB]; rfl
      · rw [hbs B9 x9 hx, decide_eq_false (fun z9 => hB z9.1), Bool.or_false]
      · rw [pg_si_at, pk_us]; rfl
      · rw [hbs _ _ hw9, decide_eq_true ⟨rfl, rfl⟩, Bool.or_true]
      · rw [hbs _ _ hx, Bool.or_eq_true, decide_eq_true_eq, a3 x9 hx, hm9]
        constructor
        · rintro ((z9 | z9) | z9)
          · exact Or.inl z9
          · exact Or.inr (Or.inl z9)
          · exact Or.inr (Or.inr ⟨q9, z9.2⟩)
        · rintro (z9 | z9 | z9)
          · exact Or.inl (Or.inl z9)
          · exact Or.inl (Or.inr z9)
          · exact Or.inr ⟨rfl, z9.2⟩
end PGR
