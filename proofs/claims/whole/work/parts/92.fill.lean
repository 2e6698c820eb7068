/-! fill: the class's first row of the most worth -/
theorem sp_mul_set {N9 n9 A9 : Nat} (hn : n9 ≤ N9) : (∀ i9, A9.testBit i9 = true → n9 ≤ i9 ∧ i9 < N9) ↔ ∃ j9, j9 < 2 ^ (N9 - n9) ∧ A9 = j9 * 2 ^ n9 := by
  have ep : 2 ^ N9 = 2 ^ (N9 - n9) * 2 ^ n9 := by rw [← Nat.pow_add]; congr 1; omega
  constructor
  · intro z9
    have hlt : A9 < 2 ^ N9 := by
      apply Nat.lt_pow_two_of_testBit
      intro i9 hi
      exact ts_nt (fun y9 => by have := z9 i9 y9; omega)
    refine ⟨A9 / 2 ^ n9, ?_, ?_⟩
    · rw [ep] at hlt
      exact Nat.div_lt_of_lt_mul (by rw [Nat.mul_comm]; exact hlt)
    · apply Nat.eq_of_testBit_eq
      intro i9
      rw [← Nat.shiftRight_eq_div_pow, ← Nat.shiftLeft_eq, Nat.testBit_shiftLeft]
      cases q9 : A9.testBit i9 with
      | true =>
        have := z9 i9 q9
        rw [decide_eq_true (by omega), Nat.testBit_shiftRight, show n9 + (i9 - n9) = i9 by omega, q9]; rfl
      | false =>
        by_cases y9 : i9 ≥ n9
        · rw [Nat.testBit_shiftRight, show n9 + (i9 - n9) = i9 by omega, q9, Bool.and_false]
        · rw [decide_eq_false y9]; rfl
  · rintro ⟨j9, hj, rfl⟩ i9 hi
    rw [← Nat.shiftLeft_eq, Nat.testBit_shiftLeft, Bool.and_eq_true, decide_eq_true_eq] at hi
    refine ⟨hi.1, ?_⟩
    rcases Nat.lt_or_ge i9 N9 with y9 | y9
    · exact y9
    · have := Nat.testBit_lt_two_pow (Nat.lt_of_lt_of_le hj (Nat.pow_le_pow_right (n := 2) (by decide) (show N9 - n9 ≤ i9 - n9 by omega)))
      rw [this] at hi; cases hi.2
theorem sp_sub_sub {a9 b9 u9 : Nat} : sp_sub a9 (u9 ||| b9) = sp_sub (sp_sub a9 u9) b9 := by
  apply Nat.eq_of_testBit_eq
  intro i9
  rw [sp_sub_bit, sp_sub_bit, sp_sub_bit, Nat.testBit_or]
  cases a9.testBit i9 <;> cases b9.testBit i9 <;> cases u9.testBit i9 <;> rfl
/-- some cloths from one on make this set one of the most worth -/
def sp_end (ch9 : Nat → Nat → Bool) (L : sp_N) (T9 n9 U9 u9 : Nat) : Prop := ∃ A, (∀ i, A.testBit i = true → n9 ≤ i ∧ i < L 4 0) ∧ sp_wS (L 3) (L 4 0) (U9 ||| A) = T9 ∧ sp_wS (L 1) (L 4 0) (U9 ||| A) ≤ L 4 1 ∧ ∃ k9, k9 < 256 ∧ k9 &&& u9 = 0 ∧ sp_asg ch9 A k9
/-- yes or no -/
def sp_yn (v : Int32) (p : Prop) : Prop := (v = 0 ∧ ¬ p) ∨ (v = 1 ∧ p)
theorem sp_yn_0 {v : Int32} {p : Prop} (hh : sp_yn v p) (z9 : v = 0) : ¬ p := by
  rcases hh with g9 | g9
  · exact g9.2
  · rw [g9.1] at z9; exact absurd z9 (by decide)
theorem sp_yn_1 {v : Int32} {p : Prop} (hh : sp_yn v p) (z9 : ¬ v = 0) : p := by
  rcases hh with g9 | g9
  · exact absurd g9.1 z9
  · exact g9.2
section PGR
variable {S : pg_S} {Λ : pg_L} {d h l : Nat} {M : pg_M} {G : sp_G} {L s : sp_N} {E : sp_E}
theorem rc_holdsWithout {A9 u9 p9 : Nat} (hA9 : A9 < 64) (hu9 : u9 < 256) (hp9 : p9 ≤ 8) (hF : pg_full Λ) (hmk : M.1 153 8 = nI (2 ^ p9)) : pg_Ev S Λ YX3_holdsWithout (d + 1) [.ref 153, .int (nI A9), .int (nI u9)] M (fun r M' => ∃ v, r = some (.int v) ∧ (sp_yn v (∃ k9, k9 < 2 ^ p9 ∧ k9 &&& u9 = 0 ∧ rc_hb M A9 k9 = true) ∧ M' = M)) := by
  have p8 : 2 ^ p9 ≤ 2 ^ 8 := Nat.pow_le_pow_right (by decide) hp9
  refine oX3_holdsWithout (sX3_holdsWithout_0 ?_)
  refine pg_loop (fun i9 (mq : pg_M) => pg_At S Λ YX3_holdsWithout (d + 1) 2 [(0, .ref 153), (1, .int (nI A9)), (2, .int (nI u9)), (3, .int (nI i9))] [] mq _) (fun i9 mq => mq = M ∧ ∀ k9, k9 < i9 → ¬ (k9 &&& u9 = 0 ∧ rc_hb M A9 k9 = true)) (2 ^ p9) ?_ ?_ 0 M (Nat.zero_le _) ⟨rfl, fun k9 hk => absurd hk (Nat.not_lt_zero _)⟩
  · rintro mq ⟨em, a1⟩
    rw [em]
    have cq : M.1 153 8 ≤ nI (2 ^ p9) := by rw [hmk]; exact nI_le (Nat.le_refl _) (by omega)
    exact sX3_holdsWithout_2 (Q0 := fun _ _ => True) hF.x3 (fun _ => ⟨0, rfl, Or.inl ⟨rfl, fun ⟨k9, g1, g2⟩ => a1 k9 g1 g2⟩, rfl⟩) (fun c => absurd cq c) (fun c => absurd cq c) (fun c => absurd cq c) (fun c => absurd cq c)
  · rintro i9 mq hi9 ⟨em, a1⟩ ihq
    rw [em]
    have cq : ¬ M.1 153 8 ≤ nI i9 := by rw [hmk]; exact nI_ge hi9 (by omega)
    have hand : (nI i9 &&& nI u9 = 0) ↔ i9 &&& u9 = 0 := by
      rw [fa_and, ← nI_0, nI_eq (Nat.lt_of_le_of_lt Nat.and_le_left (by omega)) (by omega)]
    have skip9 : ¬ (i9 &&& u9 = 0 ∧ rc_hb M A9 i9 = true) → ∀ k9, k9 < i9 + 1 → ¬ (k9 &&& u9 = 0 ∧ rc_hb M A9 k9 = true) := fun z9 k9 hk9 => by
      by_cases y9 : k9 = i9
      · rw [y9]; exact z9
      · exact a1 k9 (by omega)
    refine sX3_holdsWithout_2 (Q0 := fun v M' => v = b2i (rc_hb M A9 i9) ∧ M' = M) hF.x3 (fun c => absurd c cq) (fun _ q9 => ?_) (fun _ _ => rc_holdsBy hA9 (by omega) hF) ?_ ?_
    · rw [hand] at q9
      rw [nI_1]
      exact ihq _ ⟨rfl, skip9 (fun z9 => q9 z9.1)⟩
    · rintro _ _ vq Mq5 ⟨rfl, e5⟩ q9
      rw [b2i_0] at q9
      rw [nI_1]
      exact ihq _ ⟨e5, skip9 (fun z9 => by rw [q9] at z9; cases z9.2)⟩
    · rintro _ p1 vq Mq5 ⟨rfl, e5⟩ q9
      rw [b2i_0, Bool.not_eq_false] at q9
      rw [hand] at p1
      exact ⟨1, rfl, Or.inr ⟨rfl, i9, hi9, p1, q9⟩, e5⟩
theorem rc_canEnd {U9 n9 u9 p9 T9 snd9 : Nat} {ch9 : Nat → Nat → Bool} (hn9 : n9 ≤ L 4 0) (hU : ∀ i, U9.testBit i = true → i < n9) (hu9 : u9 < 256) (hp9 : p9 ≤ 8) (hs9 : snd9 < 2 ^ p9) (hsn : ∀ c9 b9, ch9 c9 b9 = true → sp_sub b9 snd9 = 0) (hF : pg_full Λ) (hL : pg_isX5 Λ l) (hl : rc_L M l L E) (hk : sp_okL L E) (hmk : M.1 153 8 = nI (2 ^ p9)) (hst : M.1 153 7 = nI (2 ^ L 4 0)) (hT : M.1 153 9 = nI T9) (hT9 : T9 < 2 ^ 30) (ht : rc_tab M L ch9 (2 ^ L 4 0)) : pg_Ev S Λ YX3_canEnd (d + 2) [.ref 153, .ref l, .int (nI U9), .int (nI n9), .int (nI u9)] M (fun r M' => ∃ v, r = some (.int v) ∧ (sp_yn v (sp_end ch9 L T9 n9 U9 u9) ∧ M' = M)) := by
  have h6 := hk.1
  have hY := hk.2.2.1
  have pN : 2 ^ L 4 0 ≤ 2 ^ 6 := Nat.pow_le_pow_right (by decide) h6
  have p8 : 2 ^ p9 ≤ 2 ^ 8 := Nat.pow_le_pow_right (by decide) hp9
  have pn : 0 < 2 ^ n9 := Nat.pow_pos (by decide)
  have ep : 2 ^ L 4 0 = 2 ^ (L 4 0 - n9) * 2 ^ n9 := by rw [← Nat.pow_add]; congr 1; omega
  have hUN : U9 < 2 ^ L 4 0 := by
    apply Nat.lt_pow_two_of_testBit
    intro i9 hi
    exact ts_nt (fun y9 => by have := hU i9 y9; omega)
  refine oX3_canEnd (sX3_canEnd_0 ?_)
  rw [nb_pow (by omega), show (0 : Int32) = nI (0 * 2 ^ n9) by rw [Nat.zero_mul]; rfl]
  have one9 : ∀ j9, j9 < 2 ^ (L 4 0 - n9) → (U9 ||| j9 * 2 ^ n9 < 2 ^ L 4 0 ∧ j9 * 2 ^ n9 < 2 ^ L 4 0 ∧ ∀ i, (j9 * 2 ^ n9).testBit i = true → n9 ≤ i ∧ i < L 4 0) := fun j9 hj => by
    have hlt : j9 * 2 ^ n9 < 2 ^ L 4 0 := by rw [ep]; exact Nat.mul_lt_mul_of_pos_right hj pn
    exact ⟨Nat.or_lt_two_pow hUN hlt, hlt, (sp_mul_set hn9).mpr ⟨j9, hj, rfl⟩⟩
  refine pg_loop (fun j9 (mq : pg_M) => pg_At S Λ YX3_canEnd (d + 2) 8 [(0, .ref 153), (1, .ref l), (2, .int (nI U9)), (4, .int (nI u9)), (5, .int (nI (2 ^ n9))), (6, .int (nI (j9 * 2 ^ n9)))] [] mq _) (fun j9 mq => mq = M ∧ ∀ k9, k9 < j9 → ¬ (sp_wS (L 3) (L 4 0) (U9 ||| k9 * 2 ^ n9) = T9 ∧ sp_wS (L 1) (L 4 0) (U9 ||| k9 * 2 ^ n9) ≤ L 4 1 ∧ ∃ f9, f9 < 256 ∧ f9 &&& u9 = 0 ∧ sp_asg ch9 (k9 * 2 ^ n9) f9)) (2 ^ (L 4 0 - n9)) ?_ ?_ 0 M (Nat.zero_le _) ⟨rfl, fun k9 hk => absurd hk (Nat.not_lt_zero _)⟩
  · rintro mq ⟨em, a1⟩
    rw [em]
    have cq : M.1 153 7 ≤ nI (2 ^ (L 4 0 - n9) * 2 ^ n9) := by rw [hst, ← ep]; exact nI_le (Nat.le_refl _) (by omega)
    refine sX3_canEnd_8 (Q0 := fun _ _ => True) hF.x3 hL (fun _ => ⟨0, rfl, Or.inl ⟨rfl, ?_⟩, rfl⟩) (fun c => absurd cq c) (fun c => absurd cq c) (fun c => absurd cq c) (fun c => absurd cq c) (fun c => absurd cq c) (fun c => absurd cq c)
    rintro ⟨A, g1, g2⟩
    obtain ⟨j9, hj, rfl⟩ := (sp_mul_set hn9).mp g1
    exact a1 j9 hj g2
  · rintro j9 mq hj9 ⟨em, a1⟩ ihq
    rw [em]
    obtain ⟨o1, o2, o3⟩ := one9 j9 hj9
    have cq : ¬ M.1 153 7 ≤ nI (j9 * 2 ^ n9) := by rw [hst]; exact nI_ge o2 (by omega)
    have eor : (nI U9 ||| nI (j9 * 2 ^ n9)) = nI (U9 ||| j9 * 2 ^ n9) := fa_or _ _
    have ecl : (nI (U9 ||| j9 * 2 ^ n9)).toNatClampNeg = U9 ||| j9 * 2 ^ n9 := nI_clamp (by omega)
    obtain ⟨t1, t2, t3, t4⟩ := ht.1 _ o1
    obtain ⟨t5, t6, t7, t8⟩ := ht.1 _ o2
    have wb := sp_wS_le (v9 := L 1) (N9 := L 4 0) (A9 := U9 ||| j9 * 2 ^ n9) (t9 := 20) (fun c9 => (hk.2.1 c9).2.1)
    have wb3 := sp_wS_le (v9 := L 3) (N9 := L 4 0) (A9 := U9 ||| j9 * 2 ^ n9) (t9 := 99) (fun c9 => (hk.2.1 c9).2.2.2)
    have dj : ∀ i, U9.testBit i = true → (j9 * 2 ^ n9).testBit i = false := fun i hi => ts_nt (fun y9 => by have := o3 i y9; have := hU i hi; omega)
    have hwo := sp_wS_or (v := L 1) (N := L 4 0) dj
    have enx : nI (j9 * 2 ^ n9) + nI (2 ^ n9) = nI ((j9 + 1) * 2 ^ n9) := by rw [nI_add, Nat.succ_mul]
    have go9 : ¬ (sp_wS (L 3) (L 4 0) (U9 ||| j9 * 2 ^ n9) = T9 ∧ sp_wS (L 1) (L 4 0) (U9 ||| j9 * 2 ^ n9) ≤ L 4 1 ∧ ∃ f9, f9 < 256 ∧ f9 &&& u9 = 0 ∧ sp_asg ch9 (j9 * 2 ^ n9) f9) → ∀ k9, k9 < j9 + 1 → ¬ (sp_wS (L 3) (L 4 0) (U9 ||| k9 * 2 ^ n9) = T9 ∧ sp_wS (L 1) (L 4 0) (U9 ||| k9 * 2 ^ n9) ≤ L 4 1 ∧ ∃ f9, f9 < 256 ∧ f9 &&& u9 = 0 ∧ sp_asg ch9 (k9 * 2 ^ n9) f9) := fun z9 k9 hk9 => by
      by_cases y9 : k9 = j9
      · rw [y9]; exact z9
      · exact a1 k9 (by omega)
    have ew : (M.1 157 (nI U9 ||| nI (j9 * 2 ^ n9)).toNatClampNeg = M.1 153 9) ↔ sp_wS (L 3) (L 4 0) (U9 ||| j9 * 2 ^ n9) = T9 := by
      rw [eor, ecl, t2, hT, nI_eq (by omega) (by omega)]
    have ey : (M.1 l 13 < M.1 156 (nI U9 ||| nI (j9 * 2 ^ n9)).toNatClampNeg) ↔ L 4 1 < sp_wS (L 1) (L 4 0) (U9 ||| j9 * 2 ^ n9) := by
      rw [eor, ecl, t1, hl.2.2.2.1, nI_ltI (by omega) (by omega)]
    refine sX3_canEnd_8 (Q0 := fun v M' => sp_yn v (∃ k9, k9 < 2 ^ p9 ∧ k9 &&& u9 = 0 ∧ rc_hb M (j9 * 2 ^ n9) k9 = true) ∧ M' = M) hF.x3 hL (fun c => absurd c cq) (fun _ => by rw [eor]; exact vp_in_nI (by omega) (by decide)) (fun _ q9 => ?_) (fun _ _ q9 => ?_) (fun _ _ _ => rc_holdsWithout (by omega) hu9 hp9 hF hmk) ?_ ?_
    · rw [ew] at q9
      rw [enx]
      exact ihq _ ⟨rfl, go9 (fun z9 => q9 z9.1)⟩
    · rw [ey] at q9
      rw [enx]
      exact ihq _ ⟨rfl, go9 (fun z9 => by have := z9.2.1; omega)⟩
    · rintro _ _ q8 vq Mq5 ⟨yn, e5⟩ q9
      rw [ey] at q8
      rw [enx]
      refine ihq _ ⟨e5, go9 ?_⟩
      rintro ⟨_, _, f9, g1, g2, g3⟩
      refine sp_yn_0 yn q9 ⟨f9, sp_sub_lt (sp_asg_snd hsn g3) hs9, g2, (t8 f9 g1).mpr ⟨by omega, g3⟩⟩
    · rintro _ q7 q8 vq Mq5 ⟨yn, e5⟩ q9
      rw [ew] at q7
      rw [ey] at q8
      obtain ⟨f9, g1, g2, g3⟩ := sp_yn_1 yn q9
      exact ⟨1, rfl, Or.inr ⟨rfl, j9 * 2 ^ n9, o3, q7, by omega, f9, by omega, g2, ((t8 f9 (by omega)).mp g3).2⟩, e5⟩
end PGR
