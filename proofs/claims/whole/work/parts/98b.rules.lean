/-! THE GRAMMAR of laws: the class reads it -/
theorem gr_b_ok {k9 : Nat} {cs : List (Nat × Int32)} {F9 : Nat → List (Nat × Int32) → gr_R} : gr_b (some (.ok (k9, cs))) F9 = F9 k9 cs := rfl
theorem gr_b_er {e9 : Nat} {F9 : Nat → List (Nat × Int32) → gr_R} : gr_b (some (.error e9)) F9 = some (.error e9) := rfl
/-- a step that goes on: what came first, and what then -/
theorem gr_b_cases {y9 : gr_R} {F9 : Nat → List (Nat × Int32) → gr_R} {x9 : Except Nat (Nat × List (Nat × Int32))} (hh : gr_b y9 F9 = some x9) : (∃ e9, y9 = some (.error e9) ∧ x9 = .error e9) ∨ ∃ k9 cs, y9 = some (.ok (k9, cs)) ∧ F9 k9 cs = some x9 := by
  cases y9 with
  | none => cases hh
  | some w9 =>
    cases w9 with
    | error e9 => exact Or.inl ⟨e9, rfl, (Option.some.inj hh).symm⟩
    | ok p9 => exact Or.inr ⟨p9.1, p9.2, rfl, hh⟩
section PGR
variable {S : pg_S} {Λ : pg_L} {tp : List Nat} {r9 : Nat}
/-- the eight statements at one fuel -/
def rc_G0 (S : pg_S) (Λ : pg_L) (tp : List Nat) (r9 f9 : Nat) : Prop := ∀ D9 d9 k9 cs M x9, gr tp f9 0 d9 k9 cs = some x9 → d9 ≤ 5 → 4 + 5 * (5 - d9) ≤ D9 → cs.length ≤ k9 → k9 ≤ tp.length → rc_R M tp (.ok k9) → rc_U M r9 cs → pg_Ev S Λ YX7_readPart D9 [.ref 1, .ref r9, .int (nI d9)] M (fun q M' => q = none ∧ rc_gp r9 tp M x9 M')
def rc_G1 (S : pg_S) (Λ : pg_L) (tp : List Nat) (r9 f9 : Nat) : Prop := ∀ D9 d9 k9 cs M x9, gr tp f9 1 d9 k9 cs = some x9 → d9 ≤ 5 → 5 + 5 * (5 - d9) ≤ D9 → cs.length ≤ k9 → k9 ≤ tp.length → rc_R M tp (.ok k9) → rc_U M r9 cs → pg_Ev S Λ YX7_readProduct D9 [.ref 1, .ref r9, .int (nI d9)] M (fun q M' => q = none ∧ rc_gp r9 tp M x9 M')
def rc_G2 (S : pg_S) (Λ : pg_L) (tp : List Nat) (r9 f9 : Nat) : Prop := ∀ D9 d9 k9 i9 cs M x9, gr tp f9 2 d9 k9 cs = some x9 → d9 ≤ 5 → 4 + 5 * (5 - d9) ≤ D9 → i9 ≤ k9 → cs.length ≤ k9 → k9 ≤ tp.length → rc_R M tp (.ok k9) → rc_U M r9 cs → pg_At S Λ YX7_readProduct (D9 + 1) 8 [(0, .ref 1), (1, .ref r9), (2, .int (nI d9)), (3, .int (nI i9))] [] M (fun q M' => q = none ∧ rc_gp r9 tp M x9 M')
def rc_G3 (S : pg_S) (Λ : pg_L) (tp : List Nat) (r9 f9 : Nat) : Prop := ∀ D9 d9 k9 cs M x9, gr tp f9 3 d9 k9 cs = some x9 → d9 ≤ 5 → 6 + 5 * (5 - d9) ≤ D9 → cs.length ≤ k9 → k9 ≤ tp.length → rc_R M tp (.ok k9) → rc_U M r9 cs → pg_Ev S Λ YX7_readSum D9 [.ref 1, .ref r9, .int (nI d9)] M (fun q M' => q = none ∧ rc_gp r9 tp M x9 M')
def rc_G4 (S : pg_S) (Λ : pg_L) (tp : List Nat) (r9 f9 : Nat) : Prop := ∀ D9 d9 k9 i9 cs M x9, gr tp f9 4 d9 k9 cs = some x9 → d9 ≤ 5 → 5 + 5 * (5 - d9) ≤ D9 → i9 ≤ k9 → cs.length ≤ k9 → k9 ≤ tp.length → rc_R M tp (.ok k9) → rc_U M r9 cs → pg_At S Λ YX7_readSum (D9 + 1) 8 [(0, .ref 1), (1, .ref r9), (2, .int (nI d9)), (3, .int (nI i9))] [] M (fun q M' => q = none ∧ rc_gp r9 tp M x9 M')
def rc_G5 (S : pg_S) (Λ : pg_L) (tp : List Nat) (r9 f9 : Nat) : Prop := ∀ D9 d9 k9 cs M x9, gr tp f9 5 d9 k9 cs = some x9 → d9 ≤ 5 → 7 + 5 * (5 - d9) ≤ D9 → cs.length ≤ k9 → k9 ≤ tp.length → rc_R M tp (.ok k9) → rc_U M r9 cs → pg_Ev S Λ YX7_readTest D9 [.ref 1, .ref r9, .int (nI d9)] M (fun q M' => q = none ∧ rc_gp r9 tp M x9 M')
def rc_G6 (S : pg_S) (Λ : pg_L) (tp : List Nat) (r9 f9 : Nat) : Prop := ∀ D9 d9 k9 cs M x9, gr tp f9 6 d9 k9 cs = some x9 → d9 ≤ 5 → 8 + 5 * (5 - d9) ≤ D9 → cs.length ≤ k9 → k9 ≤ tp.length → rc_R M tp (.ok k9) → rc_U M r9 cs → pg_Ev S Λ YX7_readTests D9 [.ref 1, .ref r9, .int (nI d9)] M (fun q M' => q = none ∧ rc_gp r9 tp M x9 M')
def rc_G7 (S : pg_S) (Λ : pg_L) (tp : List Nat) (r9 f9 : Nat) : Prop := ∀ D9 d9 k9 i9 cs M x9, gr tp f9 7 d9 k9 cs = some x9 → d9 ≤ 5 → 7 + 5 * (5 - d9) ≤ D9 → i9 ≤ k9 → cs.length ≤ k9 → k9 ≤ tp.length → rc_R M tp (.ok k9) → rc_U M r9 cs → pg_At S Λ YX7_readTests (D9 + 1) 8 [(0, .ref 1), (1, .ref r9), (2, .int (nI d9)), (3, .int (nI i9))] [] M (fun q M' => q = none ∧ rc_gp r9 tp M x9 M')
theorem rc_s0 {f9 : Nat} (hr : 3 ≤ r9) (hX : pg_isX7 Λ) (h8 : pg_isX8 Λ r9) (hk : tk_ok tp) (i0 : rc_G0 S Λ tp r9 f9) (i6 : rc_G6 S Λ tp r9 f9) : rc_G0 S Λ tp r9 (f9 + 1) := by
  intro D9 d9 k9 cs M x9 hx hd hD hcs hkl hR hU
  obtain ⟨D8, rfl⟩ : ∃ D8, D9 = D8 + 1 := ⟨D9 - 1, by omega⟩
  have hlen := hk.1
  have s2 : M.1 1 4 = 2 ↔ (tk_tok tp k9).1 = 2 := hR.tk.s0 (c9 := 2) hk (by omega)
  have s3 : M.1 1 4 = 3 ↔ (tk_tok tp k9).1 = 3 := hR.tk.s0 (c9 := 3) hk (by omega)
  have s40 : M.1 1 4 = 40 ↔ tk_tok tp k9 = (4, [40]) := hR.tk.s4 (c9 := 40) hk (by omega) (by decide)
  have v5 : (nI d9 < 5) ↔ d9 < 5 := by rw [show (5 : Int32) = nI 5 from rfl, nI_ltI (by omega) (by omega)]
  have wd2 : ∀ j9, tk_wd (tk_tok tp k9) = some j9 → (tk_tok tp k9).1 = 2 := fun j9 z9 => tk_wd_2 z9
  have w20 : (tk_tok tp k9).1 = 2 → (M.1 1 7 = 20 ↔ tk_wd (tk_tok tp k9) = some 20) := fun z9 => hR.tk.wj (j9 := 20) z9 (by omega)
  have w23 : (tk_tok tp k9).1 = 2 → (M.1 1 7 < 23 ↔ ¬ ∃ j9, tk_wd (tk_tok tp k9) = some j9 ∧ 23 ≤ j9) := fun z9 => by
    rw [hR.tk.w z9]
    cases hw : tk_wd (tk_tok tp k9) with
    | none =>
      constructor
      · rintro _ ⟨j9, y9, _⟩; cases y9
      · intro _; show (-1 : Int32) < 23; decide
    | some j9 =>
      have := tk_wd_lt hw
      show nI j9 < 23 ↔ _
      rw [show (23 : Int32) = nI 23 from rfl, nI_ltI (by omega) (by omega)]
      constructor
      · rintro y9 ⟨i9, y8, y7⟩
        have := Option.some.inj y8
        omega
      · intro y9
        rcases Nat.lt_or_ge j9 23 with y8 | y8
        · exact y8
        · exact absurd ⟨j9, rfl, y8⟩ y9
  -- the number 5 that fails
  have five : ¬ d9 < 5 → ((tk_tok tp k9 = (4, [40])) ∨ tk_wd (tk_tok tp k9) = some 20 ∨ (tk_tok tp k9).1 = 3 ∨ ∃ j9, tk_wd (tk_tok tp k9) = some j9 ∧ 23 ≤ j9) → x9 = .error (5 + 16 * tk_place tp k9) := fun z9 y9 => by
    have h5 : 5 ≤ d9 := by omega
    simp only [gr, if_pos h5] at hx
    by_cases c1 : tk_tok tp k9 = (4, [40])
    · rw [if_pos c1] at hx; exact (Option.some.inj hx).symm
    · rw [if_neg c1] at hx
      by_cases c2 : tk_wd (tk_tok tp k9) = some 20
      · rw [if_pos c2] at hx; exact (Option.some.inj hx).symm
      · rw [if_neg c2] at hx
        by_cases c3 : (tk_tok tp k9).1 = 3
        · rw [if_pos c3] at hx; exact (Option.some.inj hx).symm
        · rw [if_neg c3] at hx
          rcases y9 with c | c | c | ⟨j9, c4, c5⟩
          · exact absurd c c1
          · exact absurd c c2
          · exact absurd c c3
          · rw [c4] at hx
            simp only [if_pos c5] at hx
            exact (Option.some.inj hx).symm
  have wrong : ¬ ((tk_tok tp k9 = (4, [40])) ∨ tk_wd (tk_tok tp k9) = some 20 ∨ (tk_tok tp k9).1 = 3 ∨ ∃ j9, tk_wd (tk_tok tp k9) = some j9 ∧ 23 ≤ j9) → x9 = .error (1 + 16 * tk_place tp k9) := fun y9 => by
    simp only [gr] at hx
    rw [if_neg (fun c => y9 (Or.inl c)), if_neg (fun c => y9 (Or.inr (Or.inl c))), if_neg (fun c => y9 (Or.inr (Or.inr (Or.inl c))))] at hx
    cases hw : tk_wd (tk_tok tp k9) with
    | none => rw [hw] at hx; exact (Option.some.inj hx).symm
    | some j9 =>
      rw [hw] at hx
      simp only at hx
      rw [if_neg (fun c => y9 (Or.inr (Or.inr (Or.inr ⟨j9, hw, c⟩))))] at hx
      exact (Option.some.inj hx).symm
  have nl : ∀ {t9 : Nat}, t9 ≠ 0 → (tk_tok tp k9).1 = t9 → k9 < tp.length := fun a9 b9 => tk_in (by rw [b9]; exact a9)
  have h79 : ∀ fa no : Bool, (fa = true ↔ ∃ j9, tk_wd (tk_tok tp k9) = some j9 ∧ 23 ≤ j9) → (no = true ↔ tk_wd (tk_tok tp k9) = some 20) → ((tk_tok tp k9 = (4, [40])) ∨ tk_wd (tk_tok tp k9) = some 20 ∨ (tk_tok tp k9).1 = 3 ∨ ∃ j9, tk_wd (tk_tok tp k9) = some j9 ∧ 23 ≤ j9) → pg_At S Λ YX7_readPart (D8 + 1) 79 [(0, .ref 1), (1, .ref r9), (2, .int (nI d9)), (3, .int (b2i fa)), (4, .int (b2i no))] [] M (fun q M' => q = none ∧ rc_gp r9 tp M x9 M') := by
    intro fa no hfa hno hall
    have nxt := rc_rnext (S := S) (d := D8 - 3) hX hk hR
    rw [show D8 - 3 + 3 = D8 by omega] at nxt
    have isn : ¬ tk_tok tp k9 = (4, [40]) → no = false → fa = false → (tk_tok tp k9).1 = 3 := fun a1 a2 a3 => by
      rcases hall with c | c | c | c
      · exact absurd c a1
      · rw [← hno, a2] at c; cases c
      · exact c
      · rw [← hfa, a3] at c; cases c
    refine sX7_readPart_79 (Q0 := fun M' => rc_U M' r9 (cs ++ [(1, nI ((tk_tok tp k9).2.getD 0 0))]) ∧ pg_fr [r9, r9 + 1] M M') (Q1 := fun M' => rc_R M' tp (.ok (k9 + 1)) ∧ rc_U M' r9 (cs ++ [(1, nI ((tk_tok tp k9).2.getD 0 0))]) ∧ rc_gf r9 M M') (Q2 := fun M' => (∀ j9, tk_wd (tk_tok tp k9) = some j9 → rc_U M' r9 (cs ++ [(2, nI (j9 - 23))])) ∧ pg_fr [r9, r9 + 1] M M') (Q3 := fun M' => rc_R M' tp (.ok (k9 + 1)) ∧ (∀ j9, tk_wd (tk_tok tp k9) = some j9 → rc_U M' r9 (cs ++ [(2, nI (j9 - 23))])) ∧ rc_gf r9 M M') (Q4 := fun M' => rc_R M' tp (.ok (k9 + 1)) ∧ rc_rf M M') (Q5 := fun M' => ∃ y9, gr tp f9 0 (d9 + 1) (k9 + 1) cs = some y9 ∧ rc_gp r9 tp M y9 M') (Q6 := fun M' => rc_gp r9 tp M x9 M') (Q7 := fun M' => rc_R M' tp (.ok (k9 + 1)) ∧ rc_rf M M') (Q8 := fun M' => ∃ y9, gr tp f9 6 (d9 + 1) (k9 + 1) cs = some y9 ∧ rc_gp r9 tp M y9 M') (Q9 := fun M' => rc_gp r9 tp M x9 M') (Q10 := fun M' => rc_R M' tp (.error (5 + 16 * tk_place tp k9)) ∧ rc_rf M M') hX h8 ?_ ?_ ?_ ?_ ?_ ?_ ?_ ?_ ?_ ?_ ?_ ?_ ?_ ?_ ?_ ?_
    · intro q1 q2 q3 q4
      rw [s40] at q2
      rw [b2i_0] at q3 q4
      have c3 : (tk_tok tp k9).1 = 3 := isn q2 q3 q4
      have kl := nl (by decide) c3
      exact rc_radd (e9 := (1, nI ((tk_tok tp k9).2.getD 0 0))) (by rw [hR.tk.2.2 c3]; rfl) (by omega) hr h8 hU
    · rintro q1 q2 q3 q4 Mq1 ⟨g1, g2⟩
      have nq := rc_rnext (S := S) (d := D8 - 3) hX hk (hR.ad hr g2)
      rw [show D8 - 3 + 3 = D8 by omega] at nq
      refine pg_Ev.imp ?_ nq
      rintro q9 M9 ⟨y1, y2, y3⟩
      exact ⟨y1, y2, g1.rf hr y3, (rc_gf.ad hr g2).trans y3.gf⟩
    · rintro q1 q2 q3 q4 Mq1 _ Mq2 ⟨g1, g2, g3⟩
      rw [v5] at q1
      rw [s40] at q2
      rw [b2i_0] at q3 q4
      have c3 : (tk_tok tp k9).1 = 3 := isn q2 q3 q4
      have c2 : ¬ tk_wd (tk_tok tp k9) = some 20 := fun z9 => by rw [← hno, q3] at z9; cases z9
      simp only [gr] at hx
      rw [if_neg q2, if_neg c2, if_pos c3, if_neg (by omega)] at hx
      rw [← Option.some.inj hx]
      exact ⟨rfl, g3, g1, g2⟩
    · intro q1 q2 q3 q4
      rw [b2i_0, Bool.not_eq_false] at q4
      obtain ⟨j9, hw, h23⟩ := hfa.mp q4
      have hj := tk_wd_lt hw
      have kl := nl (by decide) (wd2 _ hw)
      have ew : M.1 1 7 = nI j9 := (hR.tk.wj (wd2 _ hw) hj).mpr hw
      refine pg_Ev.imp ?_ (rc_radd (e9 := (2, nI (j9 - 23))) (by rw [ew, show (23 : Int32) = nI 23 from rfl, pk_sub h23]; rfl) (by omega) hr h8 hU)
      rintro q9 M9 ⟨y1, y2, y3⟩
      exact ⟨y1, fun i9 hi => by rw [hw] at hi; rw [← Option.some.inj hi]; exact y2, y3⟩
    · rintro q1 q2 q3 q4 Mq1 ⟨g1, g2⟩
      have nq := rc_rnext (S := S) (d := D8 - 3) hX hk (hR.ad hr g2)
      rw [show D8 - 3 + 3 = D8 by omega] at nq
      refine pg_Ev.imp ?_ nq
      rintro q9 M9 ⟨y1, y2, y3⟩
      exact ⟨y1, y2, fun j9 hj => (g1 j9 hj).rf hr y3, (rc_gf.ad hr g2).trans y3.gf⟩
    · rintro q1 q2 q3 q4 Mq1 _ Mq2 ⟨g1, g2, g3⟩
      rw [v5] at q1
      rw [s40] at q2
      rw [b2i_0] at q3
      rw [b2i_0, Bool.not_eq_false] at q4
      obtain ⟨j9, hw, h23⟩ := hfa.mp q4
      have c2 : ¬ tk_wd (tk_tok tp k9) = some 20 := fun z9 => by rw [← hno, q3] at z9; cases z9
      have c3 : ¬ (tk_tok tp k9).1 = 3 := fun z9 => by rw [wd2 _ hw] at z9; cases z9
      simp only [gr] at hx
      rw [if_neg q2, if_neg c2, if_neg c3, hw] at hx
      simp only at hx
      rw [if_pos h23, if_neg (by omega)] at hx
      rw [← Option.some.inj hx]
      exact ⟨rfl, g3, g1, g2 j9 hw⟩
    · intro _ _ _; exact nxt
    · rintro q1 q2 q3 Mq1 ⟨g1, g2⟩
      rw [v5] at q1
      rw [s40] at q2
      rw [b2i_0, Bool.not_eq_false, hno] at q3
      have kl := nl (by decide) (wd2 _ q3)
      simp only [gr] at hx
      rw [if_neg q2, if_pos q3, if_neg (by omega)] at hx
      have ex : ∃ y9, gr tp f9 0 (d9 + 1) (k9 + 1) cs = some y9 := by
        rcases gr_b_cases hx with ⟨e9, z9, _⟩ | ⟨k1, c1, z9, _⟩
        · exact ⟨_, z9⟩
        · exact ⟨_, z9⟩
      obtain ⟨y9, hy⟩ := ex
      rw [nI_1]
      refine pg_Ev.imp ?_ (i0 D8 (d9 + 1) (k9 + 1) cs Mq1 y9 hy (by omega) (by omega) (by omega) (by omega) g1 (hU.rf hr g2))
      rintro q9 M9 ⟨y1, y2⟩
      exact ⟨y1, y9, hy, y2.pre g2.gf⟩
    · rintro q1 q2 q3 Mq1 ⟨g1, g2⟩ Mq2 ⟨y9, hy, g3, g4⟩
      rw [v5] at q1
      rw [s40] at q2
      rw [b2i_0, Bool.not_eq_false, hno] at q3
      have kl := nl (by decide) (wd2 _ q3)
      simp only [gr] at hx
      rw [if_neg q2, if_pos q3, if_neg (by omega), hy] at hx
      cases y9 with
      | error e9 =>
        rw [gr_b_er] at hx
        rw [← Option.some.inj hx]
        refine pg_Ev.imp ?_ (rc_radd_any (e9 := (3, 0)) rfl hr h8 g4.2)
        rintro q9 M9 ⟨y1, y2, y3⟩
        exact ⟨y1, g3.trans (rc_gf.ad hr y3), g4.1.ad hr y3, y2⟩
      | ok p9 =>
        obtain ⟨k1, c1⟩ := p9
        rw [gr_b_ok] at hx
        rw [← Option.some.inj hx]
        obtain ⟨b1, b2, b3⟩ := gr_len _ _ _ _ _ _ _ hy (by omega)
        refine pg_Ev.imp ?_ (rc_radd (e9 := (3, 0)) rfl (show c1.length < 1000 by omega) hr h8 g4.2)
        rintro q9 M9 ⟨y1, y2, y3⟩
        exact ⟨y1, g3.trans (rc_gf.ad hr y3), g4.1.ad hr y3, y2⟩
    · rintro _ _ _ Mq1 _ Mq2 _ Mq3 g9; exact ⟨rfl, g9⟩
    · intro _ _; exact nxt
    · rintro q1 q2 Mq1 ⟨g1, g2⟩
      rw [v5] at q1
      rw [s40] at q2
      have kl := nl (by decide) (show (tk_tok tp k9).1 = 4 by rw [q2])
      simp only [gr] at hx
      rw [if_pos q2, if_neg (by omega)] at hx
      have ex : ∃ y9, gr tp f9 6 (d9 + 1) (k9 + 1) cs = some y9 := by
        rcases gr_b_cases hx with ⟨e9, z9, _⟩ | ⟨k1, c1, z9, _⟩
        · exact ⟨_, z9⟩
        · exact ⟨_, z9⟩
      obtain ⟨y9, hy⟩ := ex
      rw [nI_1]
      refine pg_Ev.imp ?_ (i6 D8 (d9 + 1) (k9 + 1) cs Mq1 y9 hy (by omega) (by omega) (by omega) (by omega) g1 (hU.rf hr g2))
      rintro q9 M9 ⟨y1, y2⟩
      exact ⟨y1, y9, hy, y2.pre g2.gf⟩
    · rintro q1 q2 Mq1 ⟨g1, g2⟩ Mq2 ⟨y9, hy, g3, g4⟩
      rw [v5] at q1
      rw [s40] at q2
      simp only [gr] at hx
      rw [if_pos q2, if_neg (by omega), hy] at hx
      cases y9 with
      | error e9 =>
        rw [gr_b_er] at hx
        rw [← Option.some.inj hx]
        have ex := rc_expect (S := S) (d := D8 - 4) (c9 := 41) (by omega) (by decide) hX hk g4.1
        rw [show D8 - 4 + 4 = D8 by omega] at ex
        refine pg_Ev.imp ?_ ex
        rintro q9 M9 ⟨y1, y2, y3⟩
        exact ⟨y1, g3.trans y3.gf, y2, by obtain ⟨c1, u9⟩ := g4.2; exact ⟨c1, u9.rf hr y3⟩⟩
      | ok p9 =>
        obtain ⟨k1, c1⟩ := p9
        rw [gr_b_ok] at hx
        have ex := rc_expect (S := S) (d := D8 - 4) (c9 := 41) (by omega) (by decide) hX hk g4.1
        rw [show D8 - 4 + 4 = D8 by omega] at ex
        refine pg_Ev.imp ?_ ex
        rintro q9 M9 ⟨y1, y2, y3⟩
        refine ⟨y1, g3.trans y3.gf, ?_⟩
        by_cases z9 : tk_tok tp k1 = (4, [41])
        · rw [if_pos z9] at hx
          rw [← Option.some.inj hx]
          simp only [if_pos z9] at y2
          exact ⟨y2, g4.2.rf hr y3⟩
        · rw [if_neg z9] at hx
          rw [← Option.some.inj hx]
          simp only [if_neg z9] at y2
          exact ⟨y2, c1, g4.2.rf hr y3⟩
    · rintro _ _ Mq1 _ Mq2 _ Mq3 g9; exact ⟨rfl, g9⟩
    · intro _; exact rc_rfail (n9 := 5) (by omega) (by omega) hX hk hR
    · rintro q9 Mq1 ⟨g1, g2⟩
      rw [v5] at q9
      rw [five q9 hall]
      exact ⟨rfl, g2.gf, g1, cs, hU.rf hr g2⟩
  have fdec : ∃ fa : Bool, (fa = true ↔ ∃ j9, tk_wd (tk_tok tp k9) = some j9 ∧ 23 ≤ j9) := by
    by_cases z9 : ∃ j9, tk_wd (tk_tok tp k9) = some j9 ∧ 23 ≤ j9
    · exact ⟨true, fun _ => z9, fun _ => rfl⟩
    · exact ⟨false, fun y9 => (by cases y9), fun y9 => absurd y9 z9⟩
  obtain ⟨fa, hfa⟩ := fdec
  have ndec : ∃ no : Bool, (no = true ↔ tk_wd (tk_tok tp k9) = some 20) := ⟨decide (tk_wd (tk_tok tp k9) = some 20), decide_eq_true_iff⟩
  obtain ⟨no, hno⟩ := ndec
  have h45 : pg_At S Λ YX7_readPart (D8 + 1) 45 [(0, .ref 1), (1, .ref r9), (2, .int (nI d9)), (3, .int (b2i fa))] [.int (b2i no)] M (fun q M' => q = none ∧ rc_gp r9 tp M x9 M') := by
    refine sX7_readPart_45 (Q0 := fun M' => rc_R M' tp (.error (1 + 16 * tk_place tp k9)) ∧ rc_rf M M') hX ?_ ?_ ?_ ?_ (fun _ _ _ _ => rc_rfail (n9 := 1) (by omega) (by omega) hX hk hR) ?_
    · intro q1
      rw [b2i_0, Bool.not_eq_false, hfa] at q1
      exact h79 fa no hfa hno (Or.inr (Or.inr (Or.inr q1)))
    · intro _ q1
      rw [b2i_0, Bool.not_eq_false, hno] at q1
      exact h79 fa no hfa hno (Or.inr (Or.inl q1))
    · intro _ _ q1
      rw [s3] at q1
      exact h79 fa no hfa hno (Or.inr (Or.inr (Or.inl q1)))
    · intro _ _ _ q1
      rw [s40] at q1
      exact h79 fa no hfa hno (Or.inl q1)
    · rintro q1 q2 q3 q4 Mq1 ⟨g1, g2⟩
      rw [b2i_0] at q1 q2
      rw [s3] at q3
      rw [s40] at q4
      rw [wrong (fun z9 => by
        rcases z9 with c | c | c | c
        · exact q4 c
        · rw [← hno, q2] at c; cases c
        · exact q3 c
        · rw [← hfa, q1] at c; cases c)]
      exact ⟨rfl, g2.gf, g1, cs, hU.rf hr g2⟩
  have h22 : pg_At S Λ YX7_readPart (D8 + 1) 22 [(0, .ref 1), (1, .ref r9), (2, .int (nI d9))] [.int (b2i fa)] M (fun q M' => q = none ∧ rc_gp r9 tp M x9 M') := by
    refine sX7_readPart_22 hX ?_ ?_ ?_
    · intro q1
      rw [s2] at q1
      have : no = false := ts_nt (fun z9 => q1 (wd2 _ (hno.mp z9)))
      rw [this] at h45; exact h45
    · intro q1 q2
      rw [s2] at q1
      rw [w20 q1] at q2
      have : no = false := ts_nt (fun z9 => q2 (hno.mp z9))
      rw [this] at h45; exact h45
    · intro q1 q2
      rw [s2] at q1
      rw [w20 q1] at q2
      rw [hno.mpr q2] at h45; exact h45
  refine oX7_readPart (sX7_readPart_0 hX ?_ ?_ ?_)
  · intro q1
    rw [s2] at q1
    have : fa = false := ts_nt (fun z9 => by obtain ⟨j9, hw, _⟩ := hfa.mp z9; exact q1 (wd2 _ hw))
    rw [this] at h22; exact h22
  · intro q1 q2
    rw [s2] at q1
    rw [w23 q1] at q2
    have : fa = false := ts_nt (fun z9 => q2 (hfa.mp z9))
    rw [this] at h22; exact h22
  · intro q1 q2
    rw [s2] at q1
    rw [w23 q1, Classical.not_not] at q2
    rw [hfa.mpr q2] at h22; exact h22
end PGR
