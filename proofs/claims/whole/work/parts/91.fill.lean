/-! fill: the class lays the table of sets -/
theorem sp_and_bits {a9 b9 : Nat} : a9 &&& b9 = 0 ↔ ∀ i9, a9.testBit i9 = true → b9.testBit i9 = false := by
  constructor
  · intro z9 i9 hi
    have h2 := congrArg (fun y9 => Nat.testBit y9 i9) z9
    simp only [Nat.testBit_and, hi, Nat.zero_testBit, Bool.true_and] at h2
    exact h2
  · intro z9
    apply Nat.eq_of_testBit_eq
    intro i9
    rw [Nat.testBit_and, Nat.zero_testBit]
    cases q9 : a9.testBit i9 with
    | false => rfl
    | true => rw [z9 i9 q9]; rfl
theorem sp_sub_or {b9 k9 : Nat} (z9 : b9 &&& k9 = 0) : sp_sub (b9 ||| k9) b9 = k9 := by
  apply Nat.eq_of_testBit_eq
  intro i9
  rw [sp_sub_bit, Nat.testBit_or]
  cases q9 : b9.testBit i9 with
  | false => simp
  | true => rw [sp_and_bits.mp z9 i9 q9]; rfl
theorem sp_or_sub {b9 x9 : Nat} (z9 : sp_sub b9 x9 = 0) : b9 ||| sp_sub x9 b9 = x9 := by
  apply Nat.eq_of_testBit_eq
  intro i9
  rw [Nat.testBit_or, sp_sub_bit]
  cases q9 : b9.testBit i9 with
  | false => simp
  | true => rw [sp_sub_0.mp z9 i9 q9]; rfl
theorem sp_and_sub {b9 x9 : Nat} : b9 &&& sp_sub x9 b9 = 0 := sp_and_bits.mpr (fun i9 hi => by rw [sp_sub_bit, hi]; simp)
theorem sp_asg_snd {ch9 : Nat → Nat → Bool} {A9 x9 u9 : Nat} (hsn : ∀ c9 b9, ch9 c9 b9 = true → sp_sub b9 u9 = 0) (ha : sp_asg ch9 A9 x9) : sp_sub x9 u9 = 0 := sp_sub_0.mpr (fun i9 hi => by
  obtain ⟨g, g1, _, g3⟩ := ha
  obtain ⟨c9, hc, hp⟩ := (g3 i9).mp hi
  exact sp_sub_0.mp (hsn c9 _ (g1 c9 hc)) i9 hp)
theorem sp_wS_le {v9 : Nat → Nat} {N9 A9 t9 : Nat} (hv : ∀ c9, v9 c9 ≤ t9) : sp_wS v9 N9 A9 ≤ N9 * t9 := fb_sm_bound (fun k9 _ => by
  have := hv k9
  split <;> omega)
/-- one set's row of the table -/
def rc_tb (M : pg_M) (L : sp_N) (ch9 : Nat → Nat → Bool) (A9 : Nat) : Prop := M.1 156 A9 = nI (sp_wS (L 1) (L 4 0) A9) ∧ M.1 157 A9 = nI (sp_wS (L 3) (L 4 0) A9) ∧ rc_ch M A9 ∧ ∀ x9, x9 < 256 → (rc_hb M A9 x9 = true ↔ sp_wS (L 1) (L 4 0) A9 ≤ L 4 1 ∧ sp_asg ch9 A9 x9)
/-- the table of the sets below n9 -/
def rc_tab (M : pg_M) (L : sp_N) (ch9 : Nat → Nat → Bool) (n9 : Nat) : Prop := (∀ A9, A9 < n9 → rc_tb M L ch9 A9) ∧ ∀ A9, n9 ≤ A9 → A9 < 64 → ∀ x9, x9 < 256 → rc_hb M A9 x9 = false
theorem rc_tb.fr {M M' : pg_M} {L : sp_N} {ch9 : Nat → Nat → Bool} {A9 : Nat} (hh : rc_tb M L ch9 A9) (e1 : M'.1 156 A9 = M.1 156 A9) (e2 : M'.1 157 A9 = M.1 157 A9) (e3 : M'.1 158 A9 = M.1 158 A9) (e4 : ∀ x9, x9 < 256 → rc_hb M' A9 x9 = rc_hb M A9 x9) : rc_tb M' L ch9 A9 := by
  obtain ⟨a1, a2, a3, a4⟩ := hh
  refine ⟨by rw [e1]; exact a1, by rw [e2]; exact a2, ?_, fun x9 hx => by rw [e4 x9 hx]; exact a4 x9 hx⟩
  rcases a3 with ⟨b1, b2⟩ | ⟨b1, x9, b2, b3⟩
  · exact Or.inl ⟨by rw [e3]; exact b1, fun x9 hx => by rw [e4 x9 hx]; exact b2 x9 hx⟩
  · exact Or.inr ⟨by rw [e3]; exact b1, x9, b2, by rw [e4 x9 b2]; exact b3⟩
theorem rc_tab.fr {M M' : pg_M} {L : sp_N} {ch9 : Nat → Nat → Bool} {n9 : Nat} (hh : rc_tab M L ch9 n9) (e1 : M'.1 156 = M.1 156) (e2 : M'.1 157 = M.1 157) (e3 : M'.1 158 = M.1 158) (e4 : M'.2.1 159 = M.2.1 159) : rc_tab M' L ch9 n9 :=
  ⟨fun A9 hA => (hh.1 A9 hA).fr (by rw [e1]) (by rw [e2]) (by rw [e3]) (fun x9 _ => rc_hb_fr e4), fun A9 g1 g2 x9 hx => by rw [rc_hb_fr e4]; exact hh.2 A9 g1 g2 x9 hx⟩
section PGR
variable {S : pg_S} {Λ : pg_L} {d h l : Nat} {M : pg_M} {G : sp_G} {L s : sp_N} {E : sp_E}
theorem rc_holdSet {A9 p9 u9 : Nat} {ch9 : Nat → Nat → Bool} (hA0 : 0 < A9) (hAN : A9 < 2 ^ L 4 0) (hp9 : p9 ≤ 8) (hu9 : u9 < 2 ^ p9) (hsn : ∀ c9 b9, ch9 c9 b9 = true → sp_sub b9 u9 = 0) (hl9 : 169 ≤ l) (hF : pg_full Λ) (hL : pg_isX5 Λ l) (hl : rc_L M l L E) (hk : sp_okL L E) (hmk : M.1 153 8 = nI (2 ^ p9)) (hcc : rc_cc M (L 4 0) ch9) (ht : rc_tab M L ch9 A9) : pg_Ev S Λ YX3_holdSet (d + 3) [.ref 153, .ref l, .int (nI A9)] M (fun r M' => r = none ∧ (rc_tab M' L ch9 (A9 + 1) ∧ pg_fr [156, 157, 158, 159] M M')) := by
  have h6 := hk.1
  have pN : 2 ^ L 4 0 ≤ 2 ^ 6 := Nat.pow_le_pow_right (by decide) h6
  have p8 : 2 ^ p9 ≤ 2 ^ 8 := Nat.pow_le_pow_right (by decide) hp9
  have hA64 : A9 < 64 := by omega
  obtain ⟨eg, hc6, hbit⟩ := sp_log6 A9 hA64 hA0
  generalize Nat.log2 A9 = c9 at eg hc6 hbit
  have hcN : c9 < L 4 0 := by
    rcases Nat.lt_or_ge c9 (L 4 0) with z9 | z9
    · exact z9
    · have := Nat.testBit_lt_two_pow (Nat.lt_of_lt_of_le hAN (Nat.pow_le_pow_right (n := 2) (by decide) z9))
      rw [this] at hbit; cases hbit
  have eo : nI A9 &&& (((1 : Int32) <<< (nI c9 &&& 31)) ^^^ (-1)) = nI (sp_clr A9 c9) := by rw [nb_pow (by omega), nb_andn]; rfl
  have hBA : sp_clr A9 c9 < A9 := sp_clr_lt hbit
  have hcl : (nI c9).toNatClampNeg = c9 := nI_clamp (by omega)
  have hAl : (nI A9).toNatClampNeg = A9 := nI_clamp (by omega)
  have hBl : (nI (sp_clr A9 c9)).toNatClampNeg = sp_clr A9 c9 := nI_clamp (by omega)
  have w1 := sp_wS_clr (v := L 1) hcN hbit
  have w3 := sp_wS_clr (v := L 3) hcN hbit
  have wb := sp_wS_le (v9 := L 1) (N9 := L 4 0) (A9 := A9) (t9 := 20) (fun c9 => (hk.2.1 c9).2.1)
  have wb3 := sp_wS_le (v9 := L 3) (N9 := L 4 0) (A9 := A9) (t9 := 99) (fun c9 => (hk.2.1 c9).2.2.2)
  have hY := hk.2.2.1
  have peel := fun x9 => sp_asg_peel (ch := ch9) (u9 := x9) hbit
  obtain ⟨tB1, tB2, tB3, tB4⟩ := ht.1 _ hBA
  obtain ⟨k155, k70, k154⟩ := hcc c9 hcN
  obtain ⟨l1, l2, l3, l4⟩ := hl.2.2.2.2.2.2.1 c9 hcN
  generalize hB : sp_clr A9 c9 = B9 at *
  have hne : B9 ≠ A9 := by omega
  -- the table with this set's sums
  have zz : ∀ Nq1, Nq1 = pg_si M 156 A9 (M.1 156 B9 + M.1 (l + 3) c9) → ∀ Nq2, Nq2 = pg_si Nq1 157 A9 (Nq1.1 157 B9 + Nq1.1 (l + 5) c9) → ∀ Nq3, Nq3 = pg_si Nq2 158 A9 (vp_nar .boolean 0) → Nq3.1 156 A9 = nI (sp_wS (L 1) (L 4 0) A9) ∧ Nq3.1 157 A9 = nI (sp_wS (L 3) (L 4 0) A9) ∧ Nq3.1 158 A9 = 0 ∧ (∀ D9, D9 ≠ A9 → Nq3.1 156 D9 = M.1 156 D9 ∧ Nq3.1 157 D9 = M.1 157 D9 ∧ Nq3.1 158 D9 = M.1 158 D9) ∧ Nq3.2.1 159 = M.2.1 159 ∧ pg_fr [156, 157, 158, 159] M Nq3 := by
    rintro Nq1 rfl Nq2 rfl Nq3 rfl
    refine ⟨?_, ?_, ?_, fun D9 hD => ⟨?_, ?_, ?_⟩, rfl, ((pg_fr.si (by simp)).trans (pg_fr.si (by simp))).trans (pg_fr.si (by simp))⟩
    · rw [pg_si_ne (by decide), pg_si_ne (by decide), pg_si_at, pk_us, tB1, l2, nI_add, w1]
    · rw [pg_si_ne (by decide), pg_si_at, pk_us, pg_si_ne (by decide), pg_si_ne (by omega), tB2, l4, nI_add, w3]
    · rw [pg_si_at, pk_us]; rfl
    · rw [pg_si_ne (by decide), pg_si_ne (by decide), pg_si_at, pk_un hD]
    · rw [pg_si_ne (by decide), pg_si_at, pk_un hD, pg_si_ne (by decide)]
    · rw [pg_si_at, pk_un hD, pg_si_ne (by decide), pg_si_ne (by decide)]
  -- whatever was laid of this set, the others stand
  have fin9 : ∀ Nq3 Nq4 : pg_M, Nq3.1 156 A9 = nI (sp_wS (L 1) (L 4 0) A9) → Nq3.1 157 A9 = nI (sp_wS (L 3) (L 4 0) A9) → (∀ D9, D9 ≠ A9 → Nq3.1 156 D9 = M.1 156 D9 ∧ Nq3.1 157 D9 = M.1 157 D9 ∧ Nq3.1 158 D9 = M.1 158 D9) → Nq3.2.1 159 = M.2.1 159 → pg_fr [156, 157, 158, 159] M Nq3 → rc_hs A9 Nq3 Nq4 → rc_ch Nq4 A9 → (∀ x9, x9 < 256 → (rc_hb Nq4 A9 x9 = true ↔ sp_wS (L 1) (L 4 0) A9 ≤ L 4 1 ∧ sp_asg ch9 A9 x9)) → rc_tab Nq4 L ch9 (A9 + 1) ∧ pg_fr [156, 157, 158, 159] M Nq4 := by
    intro Nq3 Nq4 e1 e2 e3 e4 e5 e6 e7 e8
    refine ⟨⟨fun D9 hD => ?_, fun D9 g1 g2 x9 hx => ?_⟩, e5.trans (e6.1.mono (fun b9 hb9 => by simp at hb9 ⊢; omega))⟩
    · by_cases z9 : D9 = A9
      · rw [z9]
        exact ⟨by rw [e6.1.1 156 (by decide)]; exact e1, by rw [e6.1.1 157 (by decide)]; exact e2, e7, e8⟩
      · obtain ⟨g1, g2, g3⟩ := e3 D9 z9
        obtain ⟨g4, g5⟩ := e6.2 D9 z9
        exact (ht.1 D9 (by omega)).fr (by rw [e6.1.1 156 (by decide)]; exact g1) (by rw [e6.1.1 157 (by decide)]; exact g2) (g4.trans g3) (fun x9 hx => (g5 x9 hx).trans (rc_hb_fr e4))
    · rw [(e6.2 D9 (by omega)).2 x9 hx, rc_hb_fr e4]
      exact ht.2 D9 (by omega) g2 x9 hx
  have non9 : ∀ Nq3 : pg_M, Nq3.1 156 A9 = nI (sp_wS (L 1) (L 4 0) A9) → Nq3.1 157 A9 = nI (sp_wS (L 3) (L 4 0) A9) → Nq3.1 158 A9 = 0 → (∀ D9, D9 ≠ A9 → Nq3.1 156 D9 = M.1 156 D9 ∧ Nq3.1 157 D9 = M.1 157 D9 ∧ Nq3.1 158 D9 = M.1 158 D9) → Nq3.2.1 159 = M.2.1 159 → pg_fr [156, 157, 158, 159] M Nq3 → (∀ x9, x9 < 256 → ¬ (sp_wS (L 1) (L 4 0) A9 ≤ L 4 1 ∧ sp_asg ch9 A9 x9)) → rc_tab Nq3 L ch9 (A9 + 1) ∧ pg_fr [156, 157, 158, 159] M Nq3 := by
    intro Nq3 e1 e2 e0 e3 e4 e5 e6
    have off9 : ∀ x9, x9 < 256 → rc_hb Nq3 A9 x9 = false := fun x9 hx => by rw [rc_hb_fr e4]; exact ht.2 A9 (Nat.le_refl _) hA64 x9 hx
    exact fin9 Nq3 Nq3 e1 e2 e3 e4 e5 rc_hs.rfl' (Or.inl ⟨e0, off9⟩) (fun x9 hx => ⟨fun z9 => (by rw [off9 x9 hx] at z9; cases z9), fun z9 => absurd z9 (e6 x9 hx)⟩)
  refine oX3_holdSet (sX3_holdSet_0 hF.x3 hL ?_ ?_ ?_ ?_ ?_ ?_ ?_)
  all_goals try simp only [eg, eo, hAl, hBl, hcl]
  · exact vp_in_nI (by omega) (by decide)
  · exact vp_in_nI (by omega) (by decide)
  · exact vp_in_nI (by omega) (by decide)
  · intro Nq1 eq1 Nq2 eq2 q9
    obtain ⟨z1, z2, z3, z4, z5, z6⟩ := zz Nq1 eq1 Nq2 eq2 _ rfl
    refine ⟨trivial, non9 _ z1 z2 z3 z4 z5 z6 (fun x9 hx => ?_)⟩
    rintro ⟨g1, g2⟩
    obtain ⟨b9, b1, b2, b3⟩ := (peel x9).mp g2
    rw [(z4 B9 hne).2.2] at q9
    have := sp_sub_le x9 b9
    exact tB3.iff.mpr ⟨sp_sub x9 b9, by omega, (tB4 _ (by omega)).mpr ⟨by omega, b3⟩⟩ q9
  · intro Nq1 eq1 Nq2 eq2 _ q9
    obtain ⟨z1, z2, z3, z4, z5, z6⟩ := zz Nq1 eq1 Nq2 eq2 _ rfl
    refine ⟨trivial, non9 _ z1 z2 z3 z4 z5 z6 (fun x9 hx => ?_)⟩
    rw [z1, z6.1 l (by simp; omega), hl.2.2.2.1, nI_ltI (by omega) (by omega)] at q9
    intro g9
    have := g9.1
    omega
  · intro Nq1 eq1 Nq2 eq2 p1 p2 p3
    obtain ⟨z1, z2, z3, z4, z5, z6⟩ := zz Nq1 eq1 Nq2 eq2 _ rfl
    rw [z1, z6.1 l (by simp; omega), hl.2.2.2.1, nI_ltI (by omega) (by omega)] at p2
    generalize pg_si Nq2 158 A9 (vp_nar .boolean 0) = Mz at *
    have off9 : ∀ x9, x9 < 256 → rc_hb Mz A9 x9 = false := fun x9 hx => by rw [rc_hb_fr z5]; exact ht.2 A9 (Nat.le_refl _) hA64 x9 hx
    have tB5 : ∀ x9, x9 < 256 → (rc_hb Mz B9 x9 = true ↔ sp_wS (L 1) (L 4 0) B9 ≤ L 4 1 ∧ sp_asg ch9 B9 x9) := fun x9 hx => by rw [rc_hb_fr z5]; exact tB4 x9 hx
    have mz8 : Mz.1 153 8 = nI (2 ^ p9) := by rw [z6.1 153 (by decide)]; exact hmk
    refine pg_loop (fun k9 (mq : pg_M) => pg_At S Λ YX3_holdSet (d + 3) 100 [(0, .ref 153), (2, .int (nI A9)), (3, .int (nI c9)), (4, .int (nI B9)), (5, .int (nI k9))] [] mq _) (fun k9 mq => rc_hs A9 Mz mq ∧ rc_ch mq A9 ∧ ∀ x9, x9 < 256 → (rc_hb mq A9 x9 = true ↔ ∃ f9, f9 < k9 ∧ rc_hb Mz B9 f9 = true ∧ sp_hm (ch9 c9) f9 256 x9)) (2 ^ p9) ?_ ?_ 0 Mz (Nat.zero_le _) ⟨rc_hs.rfl', Or.inl ⟨z3, off9⟩, fun x9 hx => ⟨fun y9 => (by rw [off9 x9 hx] at y9; cases y9), fun ⟨f9, g1, _⟩ => absurd g1 (Nat.not_lt_zero _)⟩⟩
    · rintro mq ⟨a1, a2, a3⟩
      have cq : mq.1 153 8 ≤ nI (2 ^ p9) := by rw [a1.1.1 153 (by decide), mz8]; exact nI_le (Nat.le_refl _) (by omega)
      refine sX3_holdSet_100 (Q0 := fun _ _ => True) (Q1 := fun _ => True) hF.x3 (fun _ => ⟨rfl, fin9 Mz mq z1 z2 z4 z5 z6 a1 a2 (fun x9 hx => ?_)⟩) (fun c => absurd cq c) (fun c => absurd cq c) (fun c => absurd cq c) (fun c => absurd cq c)
      rw [a3 x9 hx]
      constructor
      · rintro ⟨f9, g1, g2, b9, g3, g4, g5, g6, g7⟩
        obtain ⟨y1, y2⟩ := (tB5 f9 (by omega)).mp g2
        refine ⟨by omega, (peel x9).mpr ⟨b9, g4, ?_, ?_⟩⟩
        · rw [g7]; exact sp_sub_0.mpr (fun i9 hi => by rw [Nat.testBit_or, hi, Bool.true_or])
        · rw [g7, sp_sub_or g6]; exact y2
      · rintro ⟨g1, g2⟩
        obtain ⟨b9, b1, b2, b3⟩ := (peel x9).mp g2
        have hb256 : b9 < 2 ^ p9 := sp_sub_lt (hsn c9 b9 b1) hu9
        have hs256 : sp_sub x9 b9 < 2 ^ p9 := sp_sub_lt (sp_asg_snd hsn b3) hu9
        have := fb_ct_le (ch9 c9) b9
        exact ⟨sp_sub x9 b9, hs256, (tB5 _ (by omega)).mpr ⟨by omega, b3⟩, b9, by omega, b1, by omega, sp_and_sub, (sp_or_sub b2).symm⟩
    · rintro k9 mq hk9 ⟨a1, a2, a3⟩ ihq
      have cq : ¬ mq.1 153 8 ≤ nI k9 := by rw [a1.1.1 153 (by decide), mz8]; exact nI_ge hk9 (by omega)
      have hbB : rc_hb mq B9 k9 = rc_hb Mz B9 k9 := (a1.2 B9 hne).2 k9 (by omega)
      have ccq : rc_cc mq (L 4 0) ch9 := hcc.fr (by rw [a1.1.1 154 (by decide), z6.1 154 (by decide)]) (by rw [a1.1.1 155 (by decide), z6.1 155 (by decide)])
      refine sX3_holdSet_100 (Q0 := fun v M' => v = b2i (rc_hb Mz B9 k9) ∧ M' = mq) (Q1 := fun M' => rc_hs A9 mq M' ∧ rc_ch M' A9 ∧ ∀ x9, x9 < 256 → (rc_hb M' A9 x9 = true ↔ rc_hb mq A9 x9 = true ∨ sp_hm (ch9 c9) k9 256 x9)) hF.x3 (fun c => absurd c cq) (fun _ => ?_) ?_ ?_ ?_
      · rw [← hbB]; exact rc_holdsBy (by omega) (by omega) hF
      · rintro _ vq Mq5 ⟨rfl, rfl⟩ q9
        rw [b2i_0] at q9
        rw [nI_1]
        refine ihq _ ⟨a1, a2, fun x9 hx => ?_⟩
        rw [a3 x9 hx]
        constructor
        · rintro ⟨f9, g1, g2⟩; exact ⟨f9, by omega, g2⟩
        · rintro ⟨f9, g1, g2, g3⟩
          have : f9 ≠ k9 := fun y9 => by rw [y9, q9] at g2; cases g2
          exact ⟨f9, by omega, g2, g3⟩
      · rintro _ vq Mq5 ⟨rfl, rfl⟩ q9
        exact rc_holdMore hA64 (by omega) hcN h6 hF ccq a2
      · rintro _ vq Mq5 ⟨rfl, rfl⟩ q9 Mq6 ⟨g1, g2, g3⟩
        rw [b2i_0, Bool.not_eq_false] at q9
        rw [nI_1]
        refine ihq _ ⟨a1.trans g1, g2, fun x9 hx => ?_⟩
        rw [g3 x9 hx, a3 x9 hx]
        constructor
        · rintro (⟨f9, y1, y2⟩ | y9)
          · exact ⟨f9, by omega, y2⟩
          · exact ⟨k9, by omega, q9, y9⟩
        · rintro ⟨f9, y1, y2, y3⟩
          by_cases y9 : f9 = k9
          · rw [y9] at y3; exact Or.inr y3
          · exact Or.inl ⟨f9, by omega, y2, y3⟩
  · intro Nq1 eq1 Nq2 eq2 _ _ q9
    obtain ⟨z1, z2, z3, z4, z5, z6⟩ := zz Nq1 eq1 Nq2 eq2 _ rfl
    refine ⟨trivial, non9 _ z1 z2 z3 z4 z5 z6 (fun x9 hx => ?_)⟩
    rw [z6.1 155 (by decide), k155, ← nI_0, nI_eq (by omega) (by omega)] at q9
    rintro ⟨g1, g2⟩
    obtain ⟨b9, b1, b2, b3⟩ := (peel x9).mp g2
    have hb256 : b9 < 2 ^ p9 := sp_sub_lt (hsn c9 b9 b1) hu9
    rw [fb_ct_zero.mp q9 b9 (by omega)] at b1
    cases b1
end PGR
