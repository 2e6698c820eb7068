/-! THE GRAMMAR of laws: the reference reads parts; all of it -/
section PGR
variable {S : pg_S} {Λ : pg_L} {tp : List Nat} {a9 n9 f9 : Nat}
theorem rm_takeSign_n {d c9 : Nat} {M : pg_M} {z9 : tk_st} (hc : c9 < 128) (hX : pg_isX11 Λ) (hk : tk_ok tp) (hR : rm_R M tp n9 z9) (hi : tk_isS tp c9 z9 = false) : pg_Ev S Λ YX11_takeSign (d + 1) [.ref 207, .int (nI c9)] M (fun r M' => r = none ∧ (rm_R M' tp n9 (tk_fail tp 1 z9) ∧ rm_rf M M' ∧ M'.1 207 7 = M.1 207 7)) := by
  refine oX11_takeSign (sX11_takeSign_0 (Q0 := fun v M' => v = b2i (tk_isS tp c9 z9) ∧ M' = M) (Q1 := fun M' => rm_R M' tp n9 (tk_fail tp 1 z9) ∧ rm_rf M M' ∧ M'.1 207 7 = M.1 207 7) hX (rm_isSign hc hX hk hR) ?_ ?_ ?_)
  · rintro v9 Mq1 ⟨_, e9⟩ _
    rw [e9]; exact rm_wrong (m9 := 1) (by omega) (by omega) hX hk hR
  · rintro v9 Mq1 ⟨_, e9⟩ q9 Mq2 g9
    exact ⟨rfl, g9⟩
  · rintro v9 Mq1 ⟨rfl, e9⟩ q9
    rw [b2i_0] at q9
    exact absurd hi q9
theorem rm_R.fle {M : pg_M} {e9 : Nat} (hR : rm_R M tp n9 (.error e9)) : ¬ M.1 207 8 ≤ 0 := by
  obtain ⟨_, _, _, _, g1, g2, g3⟩ := hR
  rw [g1, ← nI_0, nI_leI (by omega) (by decide)]
  omega
theorem rm_R.f0 {M : pg_M} {k9 : Nat} (hR : rm_R M tp n9 (.ok k9)) : M.1 207 8 ≤ 0 := by
  obtain ⟨_, _, _, _, g1, g2, g3⟩ := hR
  rw [g1]; decide
/-- the test of what stands there -/
theorem rm_p26 {D8 d9 k9 : Nat} {nb : Bool} {M : pg_M} {P9 : Option Value → pg_M → Prop} (hD : 1 ≤ D8) (hd : d9 ≤ 5) (hX : pg_isX11 Λ) (hk : tk_ok tp) (hR : rm_R M tp n9 (.ok k9))
    (hok : (0 ≤ tk_here tp 23 3 (.ok k9) ∨ nb = true ∨ tk_isS tp 40 (.ok k9) = true ∨ tk_isW tp 20 (.ok k9) = true) → d9 ≠ 5 → pg_At S Λ YX11_takePart (D8 + 1) 79 [(0, .ref 207), (1, .int (nI d9)), (2, .int (b2i nb)), (3, .int (tk_here tp 23 3 (.ok k9)))] [] M P9)
    (he5 : (0 ≤ tk_here tp 23 3 (.ok k9) ∨ nb = true ∨ tk_isS tp 40 (.ok k9) = true ∨ tk_isW tp 20 (.ok k9) = true) → d9 = 5 → ∀ M', rm_R M' tp n9 (.error (5 + 16 * tk_place tp k9)) → rm_rf M M' → M'.1 207 7 = M.1 207 7 → P9 none M')
    (he1 : ¬ (0 ≤ tk_here tp 23 3 (.ok k9) ∨ nb = true ∨ tk_isS tp 40 (.ok k9) = true ∨ tk_isW tp 20 (.ok k9) = true) → ∀ M', rm_R M' tp n9 (.error (1 + 16 * tk_place tp k9)) → rm_rf M M' → M'.1 207 7 = M.1 207 7 → P9 none M') :
    pg_At S Λ YX11_takePart (D8 + 1) 26 [(0, .ref 207), (1, .int (nI d9))] [.int (b2i nb)] M P9 := by
  have i5 : (nI d9 = (5 : Int32)) ↔ d9 = 5 := by rw [show (5 : Int32) = nI 5 from rfl, nI_eq (by omega) (by decide)]
  have hs := rm_wordHere (S := S) (Λ := Λ) (d := D8 - 1) (a9 := 23) (m9 := 3) (by omega) hX hk hR
  rw [show D8 - 1 + 1 = D8 by omega] at hs
  have k79 : ∀ (v3 : Int32) (Mq1 : pg_M), (∃ e9, rm_R Mq1 tp n9 (.error e9)) → P9 none Mq1 → pg_At S Λ YX11_takePart (D8 + 1) 79 [(0, .ref 207), (1, .int (nI d9)), (2, .int (b2i nb)), (3, .int v3)] [] Mq1 P9 := by
    rintro v3 Mq1 ⟨e9, g9⟩ hp
    have nf := g9.fle
    exact sX11_takePart_79 (Q0 := fun _ _ => True) (Q1 := fun _ _ => True) (Q2 := fun _ => True) (Q3 := fun _ => True) (Q4 := fun _ => True) (Q5 := fun _ => True) (Q6 := fun _ => True) (Q7 := fun _ => True) (Q8 := fun _ => True) (Q9 := fun _ => True) hX (fun c => absurd c nf) (fun c => absurd c nf) (fun c => absurd c nf) (fun c => absurd c nf) (fun c => absurd c nf) (fun c => absurd c nf) (fun c => absurd c nf) (fun c => absurd c nf) (fun c => absurd c nf) (fun c => absurd c nf) (fun c => absurd c nf) (fun c => absurd c nf) (fun c => absurd c nf) (fun c => absurd c nf) (fun c => absurd c nf) (fun c => absurd c nf) (fun c => absurd c nf) (fun c => absurd c nf) (fun _ => hp)
  have w5 := rm_wrong (S := S) (Λ := Λ) (d := D8) (m9 := 5) (by omega) (by omega) hX hk hR
  have w1 := rm_wrong (S := S) (Λ := Λ) (d := D8) (m9 := 1) (by omega) (by omega) hX hk hR
  refine sX11_takePart_26 (Q0 := fun v M' => v = tk_here tp 23 3 (.ok k9) ∧ M' = M) (Q1 := fun M' => rm_R M' tp n9 (.error (5 + 16 * tk_place tp k9)) ∧ rm_rf M M' ∧ M'.1 207 7 = M.1 207 7) (Q2 := fun M' => rm_R M' tp n9 (.error (5 + 16 * tk_place tp k9)) ∧ rm_rf M M' ∧ M'.1 207 7 = M.1 207 7) (Q3 := fun v M' => v = b2i (tk_isS tp 40 (.ok k9)) ∧ M' = M) (Q4 := fun M' => rm_R M' tp n9 (.error (5 + 16 * tk_place tp k9)) ∧ rm_rf M M' ∧ M'.1 207 7 = M.1 207 7) (Q5 := fun v M' => v = b2i (tk_isW tp 20 (.ok k9)) ∧ M' = M) (Q6 := fun M' => rm_R M' tp n9 (.error (5 + 16 * tk_place tp k9)) ∧ rm_rf M M' ∧ M'.1 207 7 = M.1 207 7) (Q7 := fun M' => rm_R M' tp n9 (.error (1 + 16 * tk_place tp k9)) ∧ rm_rf M M' ∧ M'.1 207 7 = M.1 207 7) hX hs ?_ ?_ ?_ ?_ ?_ ?_ ?_ ?_ ?_ ?_ ?_ ?_ ?_ ?_ ?_ ?_
  · rintro v9 Mq1 ⟨e7, e8⟩ q1 q2
    rw [e7] at q1 ⊢; rw [e8]
    exact hok (Or.inl q1) (fun c => q2 (i5.mpr c))
  · rintro v9 Mq1 ⟨_, e8⟩ _ _; rw [e8]; exact w5
  · rintro v9 Mq1 ⟨e7, e8⟩ q1 q2 Mq2 ⟨g1, g2, g3⟩
    rw [e7] at q1
    exact k79 _ _ ⟨_, g1⟩ (he5 (Or.inl q1) (i5.mp q2) Mq2 g1 g2 g3)
  · rintro v9 Mq1 ⟨e7, e8⟩ q1 q0 q2
    rw [b2i_0, Bool.not_eq_false] at q0
    rw [e7, e8]
    exact hok (Or.inr (Or.inl q0)) (fun c => q2 (i5.mpr c))
  · rintro v9 Mq1 ⟨_, e8⟩ _ _ _; rw [e8]; exact w5
  · rintro v9 Mq1 ⟨e7, e8⟩ q1 q0 q2 Mq2 ⟨g1, g2, g3⟩
    rw [b2i_0, Bool.not_eq_false] at q0
    exact k79 _ _ ⟨_, g1⟩ (he5 (Or.inr (Or.inl q0)) (i5.mp q2) Mq2 g1 g2 g3)
  · rintro v9 Mq1 ⟨_, e8⟩ _ _; rw [e8]; exact rm_isSign (c9 := 40) (by omega) hX hk hR
  · rintro v9 Mq1 ⟨e7, _⟩ q1 q0 v8 Mq2 ⟨e6, e5⟩ q3 q2
    rw [e6, b2i_0, Bool.not_eq_false] at q3
    rw [e7, e5]
    exact hok (Or.inr (Or.inr (Or.inl q3))) (fun c => q2 (i5.mpr c))
  · rintro v9 Mq1 _ _ _ v8 Mq2 ⟨_, e8⟩ _ _; rw [e8]; exact w5
  · rintro v9 Mq1 _ q1 q0 v8 Mq2 ⟨e6, e5⟩ q3 q2 Mq3 ⟨g1, g2, g3⟩
    rw [e6, b2i_0, Bool.not_eq_false] at q3
    exact k79 _ _ ⟨_, g1⟩ (he5 (Or.inr (Or.inr (Or.inl q3))) (i5.mp q2) Mq3 g1 g2 g3)
  · rintro v9 Mq1 _ _ _ v8 Mq2 ⟨_, e8⟩ _; rw [e8]; exact rm_isWord (w9 := 20) (by omega) hX hk hR
  · rintro v9 Mq1 ⟨e7, _⟩ q1 q0 v8 Mq2 _ _ v7 Mq3 ⟨e6, e5⟩ q3 q2
    rw [e6, b2i_0, Bool.not_eq_false] at q3
    rw [e7, e5]
    exact hok (Or.inr (Or.inr (Or.inr q3))) (fun c => q2 (i5.mpr c))
  · rintro v9 Mq1 _ _ _ v8 Mq2 _ _ v7 Mq3 ⟨_, e8⟩ _ _; rw [e8]; exact w5
  · rintro v9 Mq1 _ q1 q0 v8 Mq2 _ _ v7 Mq3 ⟨e6, e5⟩ q3 q2 Mq4 ⟨g1, g2, g3⟩
    rw [e6, b2i_0, Bool.not_eq_false] at q3
    exact k79 _ _ ⟨_, g1⟩ (he5 (Or.inr (Or.inr (Or.inr q3))) (i5.mp q2) Mq4 g1 g2 g3)
  · rintro v9 Mq1 _ _ _ v8 Mq2 _ _ v7 Mq3 ⟨_, e8⟩ _; rw [e8]; exact w1
  · rintro v9 Mq1 ⟨e7, _⟩ q1 q0 v8 Mq2 ⟨e6, _⟩ q3 v7 Mq3 ⟨e5, _⟩ q4 Mq4 ⟨g1, g2, g3⟩
    rw [e7] at q1
    rw [b2i_0] at q0
    rw [e6, b2i_0] at q3
    rw [e5, b2i_0] at q4
    refine k79 _ _ ⟨_, g1⟩ (he1 ?_ Mq4 g1 g2 g3)
    rintro (y9 | y9 | y9 | y9)
    · exact q1 y9
    · rw [q0] at y9; cases y9
    · rw [q3] at y9; cases y9
    · rw [q4] at y9; cases y9
theorem rm_s0 (hX : pg_isX11 Λ) (hk : tk_ok tp) (hn : n9 ≤ 1000) (i0 : rm_G0 S Λ tp a9 n9 f9) (i6 : rm_G6 S Λ tp a9 n9 f9) : rm_G0 S Λ tp a9 n9 (f9 + 1) := by
  intro D9 d9 k9 cs M x9 hx hd hD hcs hkl hR hU
  obtain ⟨D8, rfl⟩ : ∃ D8, D9 = D8 + 1 := ⟨D9 - 1, by omega⟩
  have hlen := hk.1
  have hR0 := hR
  obtain ⟨h1, h2, h3, h4, g1, g2, g3⟩ := hR0
  have hkd := tk_kind (k9 := k9) hk
  have hcl : (nI k9).toNatClampNeg = k9 := nI_clamp (by omega)
  have e2 : M.1 209 (M.1 207 7).toNatClampNeg = 2 ↔ (tk_tok tp k9).1 = 3 := by
    rw [g2, hcl, (h3 k9 g3).1, show (2 : Int32) = nI 2 from rfl, nI_eq (by have := rm_sc_le (t9 := tk_tok tp k9); omega) (by omega), rm_sc_2 hkd]
  have ers : ∀ m9 M', rm_R M' tp n9 (.error (m9 + 16 * tk_place tp k9)) → rm_rf M M' → M'.1 207 7 = M.1 207 7 → rm_gp a9 n9 tp k9 cs.length M (.error (m9 + 16 * tk_place tp k9)) M' := fun m9 M' y1 y2 y3 =>
    ⟨y2.gf, y1, cs.length, k9, by rw [y2.2 13 (by decide) (by decide)]; exact hU.1, by rw [y3]; exact g2, g3, Nat.le_refl _⟩
  -- it stands at the check
  suffices key : ∀ nb, nb = decide ((tk_tok tp k9).1 = 3) → pg_At S Λ YX11_takePart (D8 + 1) 26 [(0, .ref 207), (1, .int (nI d9))] [.int (b2i nb)] M (fun q M' => q = none ∧ rm_gp a9 n9 tp k9 cs.length M x9 M') by
    refine oX11_takePart (sX11_takePart_0 hX (fun _ => by rw [g2]; exact vp_in_nI (by omega) (by decide)) (fun _ q9 => ?_) (fun _ q9 => ?_) (fun c => absurd hR.f0 c))
    · rw [e2] at q9
      exact key false (decide_eq_false q9).symm
    · rw [e2] at q9
      exact key true (decide_eq_true q9).symm
  intro nb hnb
  have hasW := rm_hasWord (S := S) (Λ := Λ) (d := D8 - 1) (w9 := 20) (by omega) hX hk hR
  rw [show D8 - 1 + 1 = D8 by omega] at hasW
  have hasS : ∀ Mq1, rm_R Mq1 tp n9 (.ok k9) → rm_rf M Mq1 → pg_Ev S Λ YX11_hasSign D8 [.ref 207, .int 40] Mq1 (fun r M' => ∃ v, r = some (.int v) ∧ (v = b2i (tk_isS tp 40 (.ok k9)) ∧ rm_R M' tp n9 (if tk_isS tp 40 (.ok k9) = true then .ok (k9 + 1) else .ok k9) ∧ rm_rf M M')) := by
    intro Mq1 y1 y2
    have hs := rm_hasSign (S := S) (Λ := Λ) (d := D8 - 1) (c9 := 40) (by omega) hX hk y1
    rw [show D8 - 1 + 1 = D8 by omega] at hs
    refine pg_Ev.imp ?_ hs
    rintro q9 M9 ⟨v9, z1, z2, z3, z4⟩
    exact ⟨v9, z1, z2, z3, y2.trans z4⟩
  simp only [gr] at hx
  by_cases c40 : tk_tok tp k9 = (4, [40])
  · have kl : k9 < tp.length := tk_in (by rw [c40]; simp)
    have tS : tk_isS tp 40 (.ok k9) = true := decide_eq_true c40
    have tW : tk_isW tp 20 (.ok k9) = false := decide_eq_false (fun z9 => by have := tk_wd_2 z9; rw [c40] at this; exact absurd this (by simp))
    rw [if_pos c40] at hx
    refine rm_p26 (by omega) hd hX hk hR (fun _ h5 => ?_) (fun _ h5 M' y1 y2 y3 => ?_) (fun c => absurd (Or.inr (Or.inr (Or.inl tS))) c)
    · rw [if_neg (show ¬ 5 ≤ d9 by omega)] at hx
      obtain ⟨y9, hy⟩ := gr_ex hx
      rw [hy] at hx
      have all9 : ∀ Mq2, rm_R Mq2 tp n9 (.ok (k9 + 1)) → rm_rf M Mq2 → pg_Ev S Λ YX11_all D8 [.ref 207, .int (nI d9 + 1)] Mq2 (fun r M' => r = none ∧ rm_gp a9 n9 tp (k9 + 1) cs.length M y9 M') := fun Mq2 y1 y2 => by
        rw [nI_1]
        refine pg_Ev.imp ?_ (i6 D8 (d9 + 1) (k9 + 1) cs Mq2 y9 hy (by omega) (by omega) (by omega) (by omega) y1 (hU.rf y2))
        rintro q9 M9 ⟨z1, z2⟩
        exact ⟨z1, z2.pre y2.gf (by omega)⟩
      have tak : ∀ Mq3, rm_gp a9 n9 tp (k9 + 1) cs.length M y9 Mq3 → pg_Ev S Λ YX11_takeSign D8 [.ref 207, .int 41] Mq3 (fun r M' => r = none ∧ rm_gp a9 n9 tp k9 cs.length M x9 M') := fun Mq3 g9 => by
        cases y9 with
        | error e9 =>
          rw [gr_b_er] at hx
          rw [← Option.some.inj hx]
          obtain ⟨f1, f2, c9, l9, l1, l2, l3, l4⟩ := g9
          have hs := rm_takeSign_n (S := S) (Λ := Λ) (d := D8 - 1) (c9 := 41) (by omega) hX hk f2 rfl
          rw [show D8 - 1 + 1 = D8 by omega] at hs
          refine pg_Ev.imp ?_ hs
          rintro q9 M9 ⟨z1, z2, z3, z4⟩
          exact ⟨z1, f1.trans z3.gf, z2, c9, l9, by rw [z3.2 13 (by decide) (by decide)]; exact l1, by rw [z4]; exact l2, l3, by omega⟩
        | ok p9 =>
          obtain ⟨k1, c1⟩ := p9
          rw [gr_b_ok] at hx
          obtain ⟨b1, b2, b3⟩ := gr_len _ _ _ _ _ _ _ hy (by omega)
          obtain ⟨f1, f2, f3⟩ := g9
          by_cases c41 : tk_tok tp k1 = (4, [41])
          · have tq : tk_isS tp 41 (.ok k1) = true := decide_eq_true c41
            rw [if_pos c41] at hx
            rw [← Option.some.inj hx]
            have hs := rm_takeSign (S := S) (Λ := Λ) (d := D8 - 1) (c9 := 41) (by omega) hX hk f2
            rw [show D8 - 1 + 1 = D8 by omega] at hs
            refine pg_Ev.imp ?_ hs
            rintro q9 M9 ⟨z1, z2, z3⟩
            unfold tk_exp at z2
            rw [if_pos tq] at z2
            exact ⟨z1, f1.trans z3.gf, z2, f3.rf z3⟩
          · have tq : tk_isS tp 41 (.ok k1) = false := decide_eq_false c41
            rw [if_neg c41] at hx
            rw [← Option.some.inj hx]
            have hs := rm_takeSign_n (S := S) (Λ := Λ) (d := D8 - 1) (c9 := 41) (by omega) hX hk f2 tq
            rw [show D8 - 1 + 1 = D8 by omega] at hs
            refine pg_Ev.imp ?_ hs
            rintro q9 M9 ⟨z1, z2, z3, z4⟩
            obtain ⟨_, _, _, _, w1, w2, w3⟩ := f2
            exact ⟨z1, f1.trans z3.gf, z2, c1.length, k1, by rw [z3.2 13 (by decide) (by decide)]; exact f3.1, by rw [z4]; exact w2, w3, by omega⟩
      refine sX11_takePart_79 (Q0 := fun v M' => v = b2i (tk_isW tp 20 (.ok k9)) ∧ rm_R M' tp n9 (if tk_isW tp 20 (.ok k9) = true then tk_next (.ok k9) else (.ok k9)) ∧ rm_rf M M') (Q1 := fun v M' => v = b2i (tk_isS tp 40 (.ok k9)) ∧ rm_R M' tp n9 (if tk_isS tp 40 (.ok k9) = true then .ok (k9 + 1) else .ok k9) ∧ rm_rf M M') (Q2 := fun _ => True) (Q3 := fun _ => True) (Q4 := fun _ => True) (Q5 := fun _ => True) (Q6 := fun M' => rm_gp a9 n9 tp (k9 + 1) cs.length M y9 M') (Q7 := fun M' => rm_gp a9 n9 tp k9 cs.length M x9 M') (Q8 := fun _ => True) (Q9 := fun _ => True) hX (fun _ => hasW) ?_ ?_ ?_ ?_ ?_ ?_ ?_ ?_ ?_ ?_ ?_ ?_ ?_ ?_ ?_ ?_ ?_ (fun c => absurd hR.f0 c)
      · rintro _ v9 Mq1 ⟨_, y1, y2⟩ _; rw [tW] at y1; exact hasS Mq1 y1 y2
      all_goals first
        | (rintro _ v9 Mq1 _ _ v8 Mq2 ⟨e8, _⟩ q9; rw [e8, tS] at q9; exact absurd q9 (by decide))
        | (rintro _ v9 Mq1 ⟨e8, _⟩ q9; rw [e8, tW] at q9; exact absurd rfl q9)
        | skip
      · rintro _ v9 Mq1 _ _ v8 Mq2 ⟨_, y1, y2⟩ _; rw [tS] at y1; exact all9 Mq2 y1 y2
      · rintro _ v9 Mq1 _ _ v8 Mq2 _ _ Mq3 g9; exact tak Mq3 g9
      · rintro _ v9 Mq1 _ _ v8 Mq2 _ _ Mq3 _ Mq4 g9; exact ⟨rfl, g9⟩
    · rw [if_pos (by omega)] at hx
      rw [← Option.some.inj hx]
      exact ⟨rfl, ers 5 M' y1 y2 y3⟩
  · rw [if_neg c40] at hx
    have tS : tk_isS tp 40 (.ok k9) = false := decide_eq_false c40
    by_cases c20 : tk_wd (tk_tok tp k9) = some 20
    · have kl : k9 < tp.length := tk_in (by rw [tk_wd_2 c20]; decide)
      have tW : tk_isW tp 20 (.ok k9) = true := decide_eq_true c20
      rw [if_pos c20] at hx
      refine rm_p26 (by omega) hd hX hk hR (fun _ h5 => ?_) (fun _ h5 M' y1 y2 y3 => ?_) (fun c => absurd (Or.inr (Or.inr (Or.inr tW))) c)
      · rw [if_neg (show ¬ 5 ≤ d9 by omega)] at hx
        obtain ⟨y9, hy⟩ := gr_ex hx
        rw [hy] at hx
        have ee : gr_j (3, 0) y9 = x9 := by
          cases y9 with
          | error e9 => exact Option.some.inj hx
          | ok p9 => exact Option.some.inj hx
        refine sX11_takePart_79 (Q0 := fun v M' => v = b2i (tk_isW tp 20 (.ok k9)) ∧ rm_R M' tp n9 (if tk_isW tp 20 (.ok k9) = true then tk_next (.ok k9) else (.ok k9)) ∧ rm_rf M M') (Q1 := fun _ _ => True) (Q2 := fun _ => True) (Q3 := fun _ => True) (Q4 := fun _ => True) (Q5 := fun _ => True) (Q6 := fun _ => True) (Q7 := fun _ => True) (Q8 := fun M' => rm_gp a9 n9 tp (k9 + 1) cs.length M y9 M') (Q9 := fun M' => rm_gp a9 n9 tp k9 cs.length M (gr_j (3, 0) y9) M') hX (fun _ => hasW) ?_ ?_ ?_ ?_ ?_ ?_ ?_ ?_ ?_ ?_ ?_ ?_ ?_ ?_ ?_ ?_ ?_ (fun c => absurd hR.f0 c)
        all_goals first
          | (rintro _ v9 Mq1 ⟨e8, _⟩ q9; rw [e8, tW] at q9; exact absurd q9 (by decide))
          | skip
        · rintro _ v9 Mq1 ⟨_, y1, y2⟩ _
          rw [tW] at y1
          rw [nI_1]
          refine pg_Ev.imp ?_ (i0 D8 (d9 + 1) (k9 + 1) cs Mq1 y9 hy (by omega) (by omega) (by omega) (by omega) y1 (hU.rf y2))
          rintro q9 M9 ⟨z1, z2⟩
          exact ⟨z1, z2.pre y2.gf (by omega)⟩
        · rintro _ v9 Mq1 _ _ Mq2 g9
          refine rm_join (o9 := 3) hX hcs hn (fun k1 c2 e9 => ?_) g9
          rw [e9] at hy
          obtain ⟨b1, b2, b3⟩ := gr_len _ _ _ _ _ _ _ hy (by omega)
          omega
        · rintro _ v9 Mq1 _ _ Mq2 _ Mq3 g9
          rw [ee] at g9
          exact ⟨rfl, g9⟩
      · rw [if_pos (by omega)] at hx
        rw [← Option.some.inj hx]
        exact ⟨rfl, ers 5 M' y1 y2 y3⟩
    · rw [if_neg c20] at hx
      have tW : tk_isW tp 20 (.ok k9) = false := decide_eq_false c20
      -- what lays a code and goes on
      have lays : ∀ (o9 : Nat) (v9 : Int32), k9 < tp.length → (tk_tok tp k9).1 ≠ 0 → ∀ Mq2, rm_R Mq2 tp n9 (.ok k9) → rm_rf M Mq2 → pg_Ev S Λ YX11_emit D8 [.ref 207, .int (nI o9), .int v9] Mq2 (fun r M' => r = none ∧ rm_gp a9 n9 tp k9 cs.length M (.ok (k9 + 1, cs ++ [(o9, v9)])) (pg_si M' 207 7 ((M'.1 207 7) + 1))) := fun o9 v9 kl hne Mq2 y1 y2 => by
        refine pg_Ev.imp ?_ (rm_emit (a9 := a9) (cs := cs) (o9 := o9) (v9 := v9) hX (hU.rf y2) (by omega))
        rintro q9 M9 ⟨z1, z2, z3⟩
        obtain ⟨b1, b2⟩ := (y1.ef z3).adv hne
        exact ⟨z1, (y2.gf.trans z3.gf).trans b2.gf, b1, z2.rf b2⟩
      by_cases c3 : (tk_tok tp k9).1 = 3
      · have kl : k9 < tp.length := tk_in (by rw [c3]; decide)
        rw [if_pos c3] at hx
        have nbt : nb = true := hnb.trans (decide_eq_true c3)
        refine rm_p26 (by omega) hd hX hk hR (fun _ h5 => ?_) (fun _ h5 M' y1 y2 y3 => ?_) (fun c => absurd (Or.inr (Or.inl nbt)) c)
        · rw [if_neg (show ¬ 5 ≤ d9 by omega)] at hx
          rw [← Option.some.inj hx]
          have v2n : ¬ b2i nb = 0 := by rw [nbt]; decide
          refine sX11_takePart_79 (Q0 := fun v M' => v = b2i (tk_isW tp 20 (.ok k9)) ∧ rm_R M' tp n9 (if tk_isW tp 20 (.ok k9) = true then tk_next (.ok k9) else (.ok k9)) ∧ rm_rf M M') (Q1 := fun v M' => v = b2i (tk_isS tp 40 (.ok k9)) ∧ rm_R M' tp n9 (if tk_isS tp 40 (.ok k9) = true then .ok (k9 + 1) else .ok k9) ∧ rm_rf M M') (Q2 := fun _ => True) (Q3 := fun _ => True) (Q4 := fun _ => True) (Q5 := fun M' => rm_gp a9 n9 tp k9 cs.length M (.ok (k9 + 1, cs ++ [(1, nI ((tk_tok tp k9).2.getD 0 0))])) (pg_si M' 207 7 ((M'.1 207 7) + 1))) (Q6 := fun _ => True) (Q7 := fun _ => True) (Q8 := fun _ => True) (Q9 := fun _ => True) hX (fun _ => hasW) ?_ ?_ ?_ ?_ ?_ ?_ ?_ ?_ ?_ ?_ ?_ ?_ ?_ ?_ ?_ ?_ ?_ (fun c => absurd hR.f0 c)
          · rintro _ v9 Mq1 ⟨_, y1, y2⟩ _; rw [tW] at y1; exact hasS Mq1 y1 y2
          · exact fun _ v9 Mq1 _ _ v8 Mq2 _ _ q9 => absurd q9 v2n
          · exact fun _ v9 Mq1 _ _ v8 Mq2 _ _ q9 => absurd q9 v2n
          · exact fun _ v9 Mq1 _ _ v8 Mq2 _ _ q9 => absurd q9 v2n
          · exact fun _ v9 Mq1 _ _ v8 Mq2 _ _ q9 => absurd q9 v2n
          · exact fun _ v9 Mq1 _ _ v8 Mq2 _ _ q9 => absurd q9 v2n
          · exact fun _ v9 Mq1 _ _ v8 Mq2 _ _ _ q9 => absurd q9 v2n
          · exact fun _ v9 Mq1 _ _ v8 Mq2 _ _ _ q9 => absurd q9 v2n
          · rintro _ v9 Mq1 _ _ v8 Mq2 ⟨_, y1, _⟩ _ _ _
            rw [tS] at y1
            obtain ⟨_, _, _, _, w1, w2, w3⟩ := y1
            rw [w2]; exact vp_in_nI (by omega) (by decide)
          · rintro _ v9 Mq1 _ _ v8 Mq2 ⟨_, y1, y2⟩ _ _ _
            rw [tS] at y1
            have y0 := y1
            obtain ⟨_, _, w0, _, w1, w2, w3⟩ := y1
            rw [w2, hcl, (w0 k9 w3).2.2.2 (by omega), lo_to (by have := tk_num_lt c3; omega)]
            exact lays 1 _ kl (by omega) Mq2 y0 y2
          · rintro _ v9 Mq1 _ _ v8 Mq2 _ _ _ _ Mq3 g9; exact ⟨rfl, g9⟩
          all_goals first
            | (rintro _ v9 Mq1 _ _ v8 Mq2 ⟨e8, _⟩ q9; rw [e8, tS] at q9; exact absurd rfl q9)
            | (rintro _ v9 Mq1 ⟨e8, _⟩ q9; rw [e8, tW] at q9; exact absurd rfl q9)
        · rw [if_pos (by omega)] at hx
          rw [← Option.some.inj hx]
          exact ⟨rfl, ers 5 M' y1 y2 y3⟩
      · rw [if_neg c3] at hx
        have nbf : nb = false := hnb.trans (decide_eq_false c3)
        have hh9 : tk_here tp 23 3 (.ok k9) = (match tk_wd (tk_tok tp k9) with
          | none => (-1 : Int32)
          | some j9 => if 23 ≤ j9 ∧ j9 < 23 + 3 then nI (j9 - 23) else -1) := rfl
        have noe : ¬ (0 : Int32) ≤ -1 := by decide
        have nol : ¬ 0 ≤ tk_here tp 23 3 (.ok k9) → ¬ (0 ≤ tk_here tp 23 3 (.ok k9) ∨ nb = true ∨ tk_isS tp 40 (.ok k9) = true ∨ tk_isW tp 20 (.ok k9) = true) := by
          rintro w9 (y9 | y9 | y9 | y9)
          · exact w9 y9
          · rw [nbf] at y9; cases y9
          · rw [tS] at y9; cases y9
          · rw [tW] at y9; cases y9
        cases hw : tk_wd (tk_tok tp k9) with
        | none =>
          rw [hw] at hx hh9
          simp only at hx
          have n0 := nol (by rw [hh9]; exact noe)
          refine rm_p26 (by omega) hd hX hk hR (fun c => absurd c n0) (fun c => absurd c n0) (fun _ M' y1 y2 y3 => ?_)
          rw [← Option.some.inj hx]
          exact ⟨rfl, ers 1 M' y1 y2 y3⟩
        | some j9 =>
          rw [hw] at hx hh9
          simp only at hx
          have jl := tk_wd_lt hw
          by_cases c23 : 23 ≤ j9
          · have kl : k9 < tp.length := tk_in (by rw [tk_wd_2 hw]; decide)
            have hh8 : tk_here tp 23 3 (.ok k9) = nI (j9 - 23) := by
              rw [hh9]; show (if 23 ≤ j9 ∧ j9 < 23 + 3 then nI (j9 - 23) else -1) = _
              rw [if_pos (by omega)]
            rw [if_pos c23] at hx
            have po : 0 ≤ tk_here tp 23 3 (.ok k9) := by rw [hh8, ← nI_0, nI_leI (by decide) (by omega)]; omega
            refine rm_p26 (by omega) hd hX hk hR (fun _ h5 => ?_) (fun _ h5 M' y1 y2 y3 => ?_) (fun c => absurd (Or.inl po) c)
            · rw [if_neg (show ¬ 5 ≤ d9 by omega)] at hx
              rw [← Option.some.inj hx]
              have v2n : b2i nb = 0 := by rw [nbf]; rfl
              refine sX11_takePart_79 (Q0 := fun v M' => v = b2i (tk_isW tp 20 (.ok k9)) ∧ rm_R M' tp n9 (if tk_isW tp 20 (.ok k9) = true then tk_next (.ok k9) else (.ok k9)) ∧ rm_rf M M') (Q1 := fun v M' => v = b2i (tk_isS tp 40 (.ok k9)) ∧ rm_R M' tp n9 (if tk_isS tp 40 (.ok k9) = true then .ok (k9 + 1) else .ok k9) ∧ rm_rf M M') (Q2 := fun M' => rm_gp a9 n9 tp k9 cs.length M (.ok (k9 + 1, cs ++ [(2, nI (j9 - 23))])) (pg_si M' 207 7 ((M'.1 207 7) + 1))) (Q3 := fun _ => True) (Q4 := fun _ => True) (Q5 := fun _ => True) (Q6 := fun _ => True) (Q7 := fun _ => True) (Q8 := fun _ => True) (Q9 := fun _ => True) hX (fun _ => hasW) ?_ ?_ ?_ ?_ ?_ ?_ ?_ ?_ ?_ ?_ ?_ ?_ ?_ ?_ ?_ ?_ ?_ (fun c => absurd hR.f0 c)
              · rintro _ v9 Mq1 ⟨_, y1, y2⟩ _; rw [tW] at y1; exact hasS Mq1 y1 y2
              · rintro _ v9 Mq1 _ _ v8 Mq2 ⟨_, y1, y2⟩ _ _ _
                rw [tS] at y1
                rw [hh8]
                exact lays 2 _ kl (by rw [tk_wd_2 hw]; decide) Mq2 y1 y2
              · rintro _ v9 Mq1 _ _ v8 Mq2 _ _ _ _ Mq3 g9; exact ⟨rfl, g9⟩
              · exact fun _ v9 Mq1 _ _ v8 Mq2 _ _ _ q9 => absurd v2n q9
              · exact fun _ v9 Mq1 _ _ v8 Mq2 _ _ _ q9 => absurd v2n q9
              · exact fun _ v9 Mq1 _ _ v8 Mq2 _ _ _ q9 => absurd v2n q9
              · exact fun _ v9 Mq1 _ _ v8 Mq2 _ _ q9 => absurd v2n q9
              · exact fun _ v9 Mq1 _ _ v8 Mq2 _ _ q9 => absurd v2n q9
              · exact fun _ v9 Mq1 _ _ v8 Mq2 _ _ q9 => absurd v2n q9
              · exact fun _ v9 Mq1 _ _ v8 Mq2 _ _ q9 => absurd v2n q9
              · exact fun _ v9 Mq1 _ _ v8 Mq2 _ _ q9 => absurd v2n q9
              all_goals first
                | (rintro _ v9 Mq1 _ _ v8 Mq2 ⟨e8, _⟩ q9; rw [e8, tS] at q9; exact absurd rfl q9)
                | (rintro _ v9 Mq1 ⟨e8, _⟩ q9; rw [e8, tW] at q9; exact absurd rfl q9)
            · rw [if_pos (by omega)] at hx
              rw [← Option.some.inj hx]
              exact ⟨rfl, ers 5 M' y1 y2 y3⟩
          · rw [if_neg c23] at hx
            have hh8 : tk_here tp 23 3 (.ok k9) = -1 := by
              rw [hh9]; show (if 23 ≤ j9 ∧ j9 < 23 + 3 then nI (j9 - 23) else -1) = _
              rw [if_neg (by omega)]
            have n0 := nol (by rw [hh8]; exact noe)
            refine rm_p26 (by omega) hd hX hk hR (fun c => absurd c n0) (fun c => absurd c n0) (fun _ M' y1 y2 y3 => ?_)
            rw [← Option.some.inj hx]
            exact ⟨rfl, ers 1 M' y1 y2 y3⟩
/-- the reference reads laws as the grammar says -/
theorem rm_gr (hX : pg_isX11 Λ) (hk : tk_ok tp) (hn : n9 ≤ 1000) : ∀ f9, rm_G0 S Λ tp a9 n9 f9 ∧ rm_G1 S Λ tp a9 n9 f9 ∧ rm_G2 S Λ tp a9 n9 f9 ∧ rm_G3 S Λ tp a9 n9 f9 ∧ rm_G4 S Λ tp a9 n9 f9 ∧ rm_G5 S Λ tp a9 n9 f9 ∧ rm_G6 S Λ tp a9 n9 f9 ∧ rm_G7 S Λ tp a9 n9 f9 := by
  intro f9
  induction f9 with
  | zero =>
    refine ⟨?_, ?_, ?_, ?_, ?_, ?_, ?_, ?_⟩ <;> (intro D9 d9 k9 cs M x9 hx; simp only [gr] at hx; cases hx)
  | succ f9 ih9 =>
    obtain ⟨j0, j1, j2, j3, j4, j5, j6, j7⟩ := ih9
    exact ⟨rm_s0 hX hk hn j0 j6, rm_s1 hX hk j0 j2, rm_s2 hX hk hn j0 j2, rm_s3 hX hk j1 j4, rm_s4 hX hk hn j1 j4, rm_s5 hX hk hn j3, rm_s6 hX hk j5 j7, rm_s7 hX hk hn j5 j7⟩
end PGR
