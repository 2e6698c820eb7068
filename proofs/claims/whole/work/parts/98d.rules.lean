/-! THE GRAMMAR of laws: the class reads the rest of sums, of tests, and tests -/
section PGR
variable {S : pg_S} {Λ : pg_L} {tp : List Nat} {r9 f9 : Nat}
theorem rc_s4 (hr : 3 ≤ r9) (hX : pg_isX7 Λ) (h8 : pg_isX8 Λ r9) (hk : tk_ok tp) (i1 : rc_G1 S Λ tp r9 f9) (i4 : rc_G4 S Λ tp r9 f9) : rc_G4 S Λ tp r9 (f9 + 1) := by
  intro D9 d9 k9 i9 cs M x9 hx hd hD hi hcs hkl hR hU
  have hlen := hk.1
  have s43 : M.1 1 4 = 43 ↔ tk_tok tp k9 = (4, [43]) := hR.tk.s4 (c9 := 43) hk (by omega) (by decide)
  have s45 : M.1 1 4 = 45 ↔ tk_tok tp k9 = (4, [45]) := hR.tk.s4 (c9 := 45) hk (by omega) (by decide)
  have nxt := rc_rnext (S := S) (d := D9 - 3) hX hk hR
  rw [show D9 - 3 + 3 = D9 by omega] at nxt
  have rig : ∀ (Mq1 : pg_M) (y9 : Except Nat (Nat × List (Nat × Int32))), gr tp f9 1 d9 (k9 + 1) cs = some y9 → k9 < tp.length → rc_R Mq1 tp (.ok (k9 + 1)) ∧ rc_rf M Mq1 → pg_Ev S Λ YX7_readProduct D9 [.ref 1, .ref r9, .int (nI d9)] Mq1 (fun q M' => q = none ∧ rc_gp r9 tp M y9 M') := by
    rintro Mq1 y9 hy kl ⟨g1, g2⟩
    refine pg_Ev.imp ?_ (i1 D9 d9 (k9 + 1) cs Mq1 y9 hy hd (by omega) (by omega) (by omega) g1 (hU.rf hr g2))
    rintro q9 M9 ⟨y1, y2⟩
    exact ⟨y1, y2.pre g2.gf⟩
  have joi : ∀ (Mq2 : pg_M) (e8 : Nat × Int32) (v : Int32) (y9 : Except Nat (Nat × List (Nat × Int32))), gr tp f9 1 d9 (k9 + 1) cs = some y9 → k9 < tp.length → v = gr_c e8 → rc_gp r9 tp M y9 Mq2 → pg_Ev S Λ YX8_add D9 [.ref r9, .int v] Mq2 (fun q M' => q = none ∧ rc_gp r9 tp M (gr_j e8 y9) M') := by
    intro Mq2 e8 v y9 hy kl hv g9
    refine rc_join hv hr h8 hk (fun k1 c2 e9 => ?_) g9
    rw [e9] at hy
    obtain ⟨b1, b2, b3⟩ := gr_len _ _ _ _ _ _ _ hy (by omega)
    omega
  have goo : ∀ (Mq3 : pg_M) (e8 : Nat × Int32) (y9 : Except Nat (Nat × List (Nat × Int32))), gr tp f9 1 d9 (k9 + 1) cs = some y9 → k9 < tp.length → gr_b (some y9) (fun k1 c1 => gr tp f9 4 d9 k1 (c1 ++ [e8])) = some x9 → rc_gp r9 tp M (gr_j e8 y9) Mq3 → pg_At S Λ YX7_readSum (D9 + 1) 8 [(0, .ref 1), (1, .ref r9), (2, .int (nI d9)), (3, .int (nI i9 + 1))] [] Mq3 (fun q M' => q = none ∧ rc_gp r9 tp M x9 M') := by
    rintro Mq3 e8 y9 hy kl hz ⟨g1, g2⟩
    rw [nI_1]
    cases y9 with
    | error e9 =>
      rw [gr_b_er] at hz
      rw [← Option.some.inj hz]
      have nf := g2.1.f1
      exact sX7_readSum_8 (Q0 := fun _ => True) (Q1 := fun _ => True) (Q2 := fun _ => True) (Q3 := fun _ => True) (Q4 := fun _ => True) (Q5 := fun _ => True) (Q6 := fun _ => True) (Q7 := fun _ => True) (Q8 := fun _ => True) (Q9 := fun _ => True) (Q10 := fun _ => True) (Q11 := fun _ => True) hX h8 (fun _ => ⟨rfl, g1, g2⟩) (fun _ _ => ⟨rfl, g1, g2⟩) (fun _ c => absurd c nf) (fun _ c => absurd c nf) (fun _ c => absurd c nf) (fun _ c => absurd c nf) (fun _ c => absurd c nf) (fun _ c => absurd c nf) (fun _ c => absurd c nf) (fun _ c => absurd c nf) (fun _ c => absurd c nf) (fun _ c => absurd c nf) (fun _ c => absurd c nf) (fun _ c => absurd c nf) (fun _ c => absurd c nf) (fun _ c => absurd c nf) (fun _ c => absurd c nf) (fun _ c => absurd c nf) (fun _ c => absurd c nf)
    | ok p9 =>
      obtain ⟨k1, c2⟩ := p9
      rw [gr_b_ok] at hz
      obtain ⟨b1, b2, b3⟩ := gr_len _ _ _ _ _ _ _ hy (by omega)
      refine pg_At.imp ?_ (i4 D9 d9 k1 (i9 + 1) (c2 ++ [e8]) Mq3 x9 hz hd (by omega) (by omega) (by simp only [List.length_append, List.length_singleton]; omega) b2 g2.1 g2.2)
      rintro q9 M9 ⟨y1, y2⟩
      exact ⟨y1, y2.pre g1⟩
  simp only [gr] at hx
  by_cases c1 : tk_tok tp k9 = (4, [43])
  · have kl : k9 < tp.length := tk_in (by rw [c1]; simp)
    have ci := rc_i1000 hi (show k9 < 1000 by omega)
    have m1 := s43.mpr c1
    rw [if_pos c1] at hx
    obtain ⟨y9, hy⟩ := gr_ex hx
    rw [hy] at hx
    exact sX7_readSum_8 (Q0 := fun _ => True) (Q1 := fun _ => True) (Q2 := fun _ => True) (Q3 := fun M' => rc_R M' tp (.ok (k9 + 1)) ∧ rc_rf M M') (Q4 := fun M' => rc_gp r9 tp M y9 M') (Q5 := fun M' => rc_gp r9 tp M (gr_j (4, 0) y9) M') (Q6 := fun _ => True) (Q7 := fun _ => True) (Q8 := fun _ => True) (Q9 := fun _ => True) (Q10 := fun _ => True) (Q11 := fun _ => True) hX h8 (fun c => absurd c ci) (fun _ c => absurd hR.f0 c) (fun _ _ _ c => absurd m1 c) (fun _ _ _ c => absurd m1 c) (fun _ _ _ c => absurd m1 c) (fun _ _ _ c => absurd m1 c) (fun _ _ _ _ => nxt) (fun _ _ _ _ Mq1 g9 => rig Mq1 y9 hy kl g9) (fun _ _ _ _ _ _ Mq2 g9 => joi Mq2 (4, 0) (-9) y9 hy kl rfl g9) (fun _ _ _ _ _ _ _ _ Mq3 g9 => goo Mq3 (4, 0) y9 hy kl hx g9) (fun _ _ c => absurd m1 c) (fun _ _ c => absurd m1 c) (fun _ _ c => absurd m1 c) (fun _ _ c => absurd m1 c) (fun _ _ c => absurd m1 c) (fun _ _ c => absurd m1 c) (fun _ _ c => absurd m1 c) (fun _ _ c => absurd m1 c) (fun _ _ c => absurd m1 c)
  · rw [if_neg c1] at hx
    have m1 : ¬ M.1 1 4 = 43 := fun c => c1 (s43.mp c)
    by_cases c2 : tk_tok tp k9 = (4, [45])
    · have kl : k9 < tp.length := tk_in (by rw [c2]; simp)
      have ci := rc_i1000 hi (show k9 < 1000 by omega)
      have m2 := s45.mpr c2
      rw [if_pos c2] at hx
      obtain ⟨y9, hy⟩ := gr_ex hx
      rw [hy] at hx
      exact sX7_readSum_8 (Q0 := fun _ => True) (Q1 := fun _ => True) (Q2 := fun _ => True) (Q3 := fun _ => True) (Q4 := fun _ => True) (Q5 := fun _ => True) (Q6 := fun M' => rc_R M' tp (.ok (k9 + 1)) ∧ rc_rf M M') (Q7 := fun M' => rc_gp r9 tp M y9 M') (Q8 := fun M' => rc_gp r9 tp M (gr_j (5, 0) y9) M') (Q9 := fun _ => True) (Q10 := fun _ => True) (Q11 := fun _ => True) hX h8 (fun c => absurd c ci) (fun _ c => absurd hR.f0 c) (fun _ _ c => absurd c m1) (fun _ _ c => absurd c m1) (fun _ _ c => absurd c m1) (fun _ _ c => absurd c m1) (fun _ _ c => absurd c m1) (fun _ _ c => absurd c m1) (fun _ _ c => absurd c m1) (fun _ _ c => absurd c m1) (fun _ _ _ c => absurd m2 c) (fun _ _ _ _ _ => nxt) (fun _ _ _ _ _ Mq1 g9 => rig Mq1 y9 hy kl g9) (fun _ _ _ _ _ _ _ Mq2 g9 => joi Mq2 (5, 0) (-10) y9 hy kl rfl g9) (fun _ _ _ _ _ _ _ _ _ Mq3 g9 => goo Mq3 (5, 0) y9 hy kl hx g9) (fun _ _ _ _ c => absurd c m1) (fun _ _ _ _ c => absurd c m1) (fun _ _ _ _ c => absurd c m1) (fun _ _ _ _ c => absurd c m1)
    · rw [if_neg c2] at hx
      have m2 : ¬ M.1 1 4 = 45 := fun c => c2 (s45.mp c)
      rw [← Option.some.inj hx]
      exact sX7_readSum_8 (Q0 := fun _ => True) (Q1 := fun _ => True) (Q2 := fun _ => True) (Q3 := fun _ => True) (Q4 := fun _ => True) (Q5 := fun _ => True) (Q6 := fun _ => True) (Q7 := fun _ => True) (Q8 := fun _ => True) (Q9 := fun _ => True) (Q10 := fun _ => True) (Q11 := fun _ => True) hX h8 (fun _ => ⟨rfl, rc_gf.rfl', hR, hU⟩) (fun _ c => absurd hR.f0 c) (fun _ _ c => absurd c m1) (fun _ _ c => absurd c m1) (fun _ _ c => absurd c m1) (fun _ _ c => absurd c m1) (fun _ _ c => absurd c m1) (fun _ _ c => absurd c m1) (fun _ _ c => absurd c m1) (fun _ _ c => absurd c m1) (fun _ _ _ _ => ⟨rfl, rc_gf.rfl', hR, hU⟩) (fun _ _ _ c => absurd c m2) (fun _ _ _ c => absurd c m2) (fun _ _ _ c => absurd c m2) (fun _ _ _ c => absurd c m2) (fun _ _ _ c => absurd c m2) (fun _ _ _ c => absurd c m2) (fun _ _ _ c => absurd c m2) (fun _ _ _ c => absurd c m2)
theorem rc_s7 (hr : 3 ≤ r9) (hX : pg_isX7 Λ) (h8 : pg_isX8 Λ r9) (hk : tk_ok tp) (i5 : rc_G5 S Λ tp r9 f9) (i7 : rc_G7 S Λ tp r9 f9) : rc_G7 S Λ tp r9 (f9 + 1) := by
  intro D9 d9 k9 i9 cs M x9 hx hd hD hi hcs hkl hR hU
  have hlen := hk.1
  have s2 : M.1 1 4 = 2 ↔ (tk_tok tp k9).1 = 2 := hR.tk.s0 (c9 := 2) hk (by omega)
  have w21 : (tk_tok tp k9).1 = 2 → (M.1 1 7 = 21 ↔ tk_wd (tk_tok tp k9) = some 21) := fun z9 => hR.tk.wj (j9 := 21) z9 (by omega)
  have w22 : (tk_tok tp k9).1 = 2 → (M.1 1 7 = 22 ↔ tk_wd (tk_tok tp k9) = some 22) := fun z9 => hR.tk.wj (j9 := 22) z9 (by omega)
  have nxt := rc_rnext (S := S) (d := D9 - 3) hX hk hR
  rw [show D9 - 3 + 3 = D9 by omega] at nxt
  have rig : ∀ (Mq1 : pg_M) (y9 : Except Nat (Nat × List (Nat × Int32))), gr tp f9 5 d9 (k9 + 1) cs = some y9 → k9 < tp.length → rc_R Mq1 tp (.ok (k9 + 1)) ∧ rc_rf M Mq1 → pg_Ev S Λ YX7_readTest D9 [.ref 1, .ref r9, .int (nI d9)] Mq1 (fun q M' => q = none ∧ rc_gp r9 tp M y9 M') := by
    rintro Mq1 y9 hy kl ⟨g1, g2⟩
    refine pg_Ev.imp ?_ (i5 D9 d9 (k9 + 1) cs Mq1 y9 hy hd (by omega) (by omega) (by omega) g1 (hU.rf hr g2))
    rintro q9 M9 ⟨y1, y2⟩
    exact ⟨y1, y2.pre g2.gf⟩
  have joi : ∀ (Mq2 : pg_M) (e8 : Nat × Int32) (v : Int32) (y9 : Except Nat (Nat × List (Nat × Int32))), gr tp f9 5 d9 (k9 + 1) cs = some y9 → k9 < tp.length → v = gr_c e8 → rc_gp r9 tp M y9 Mq2 → pg_Ev S Λ YX8_add D9 [.ref r9, .int v] Mq2 (fun q M' => q = none ∧ rc_gp r9 tp M (gr_j e8 y9) M') := by
    intro Mq2 e8 v y9 hy kl hv g9
    refine rc_join hv hr h8 hk (fun k1 c2 e9 => ?_) g9
    rw [e9] at hy
    obtain ⟨b1, b2, b3⟩ := gr_len _ _ _ _ _ _ _ hy (by omega)
    omega
  have goo : ∀ (Mq3 : pg_M) (e8 : Nat × Int32) (y9 : Except Nat (Nat × List (Nat × Int32))), gr tp f9 5 d9 (k9 + 1) cs = some y9 → k9 < tp.length → gr_b (some y9) (fun k1 c1 => gr tp f9 7 d9 k1 (c1 ++ [e8])) = some x9 → rc_gp r9 tp M (gr_j e8 y9) Mq3 → pg_At S Λ YX7_readTests (D9 + 1) 8 [(0, .ref 1), (1, .ref r9), (2, .int (nI d9)), (3, .int (nI i9 + 1))] [] Mq3 (fun q M' => q = none ∧ rc_gp r9 tp M x9 M') := by
    rintro Mq3 e8 y9 hy kl hz ⟨g1, g2⟩
    rw [nI_1]
    cases y9 with
    | error e9 =>
      rw [gr_b_er] at hz
      rw [← Option.some.inj hz]
      have nf := g2.1.f1
      exact sX7_readTests_8 (Q0 := fun _ => True) (Q1 := fun _ => True) (Q2 := fun _ => True) (Q3 := fun _ => True) (Q4 := fun _ => True) (Q5 := fun _ => True) (Q6 := fun _ => True) (Q7 := fun _ => True) (Q8 := fun _ => True) (Q9 := fun _ => True) (Q10 := fun _ => True) (Q11 := fun _ => True) hX h8 (fun _ => ⟨rfl, g1, g2⟩) (fun _ _ => ⟨rfl, g1, g2⟩) (fun _ c => absurd c nf) (fun _ c => absurd c nf) (fun _ c => absurd c nf) (fun _ c => absurd c nf) (fun _ c => absurd c nf) (fun _ c => absurd c nf) (fun _ c => absurd c nf) (fun _ c => absurd c nf) (fun _ c => absurd c nf) (fun _ c => absurd c nf) (fun _ c => absurd c nf) (fun _ c => absurd c nf) (fun _ c => absurd c nf) (fun _ c => absurd c nf) (fun _ c => absurd c nf) (fun _ c => absurd c nf) (fun _ c => absurd c nf) (fun _ c => absurd c nf)
    | ok p9 =>
      obtain ⟨k1, c2⟩ := p9
      rw [gr_b_ok] at hz
      obtain ⟨b1, b2, b3⟩ := gr_len _ _ _ _ _ _ _ hy (by omega)
      refine pg_At.imp ?_ (i7 D9 d9 k1 (i9 + 1) (c2 ++ [e8]) Mq3 x9 hz hd (by omega) (by omega) (by simp only [List.length_append, List.length_singleton]; omega) b2 g2.1 g2.2)
      rintro q9 M9 ⟨y1, y2⟩
      exact ⟨y1, y2.pre g1⟩
  simp only [gr] at hx
  by_cases c1 : tk_wd (tk_tok tp k9) = some 21
  · have t2 := tk_wd_2 c1
    have kl : k9 < tp.length := tk_in (by rw [t2]; decide)
    have ci := rc_i1000 hi (show k9 < 1000 by omega)
    have m1 := (w21 t2).mpr c1
    have ms := s2.mpr t2
    rw [if_pos c1] at hx
    obtain ⟨y9, hy⟩ := gr_ex hx
    rw [hy] at hx
    exact sX7_readTests_8 (Q0 := fun _ => True) (Q1 := fun _ => True) (Q2 := fun _ => True) (Q3 := fun M' => rc_R M' tp (.ok (k9 + 1)) ∧ rc_rf M M') (Q4 := fun M' => rc_gp r9 tp M y9 M') (Q5 := fun M' => rc_gp r9 tp M (gr_j (9, 0) y9) M') (Q6 := fun _ => True) (Q7 := fun _ => True) (Q8 := fun _ => True) (Q9 := fun _ => True) (Q10 := fun _ => True) (Q11 := fun _ => True) hX h8 (fun c => absurd c ci) (fun _ c => absurd hR.f0 c) (fun _ _ c => absurd ms c) (fun _ _ _ _ c => absurd m1 c) (fun _ _ _ _ c => absurd m1 c) (fun _ _ _ _ c => absurd m1 c) (fun _ _ _ _ c => absurd m1 c) (fun _ _ _ _ _ => nxt) (fun _ _ _ _ _ Mq1 g9 => rig Mq1 y9 hy kl g9) (fun _ _ _ _ _ _ _ Mq2 g9 => joi Mq2 (9, 0) (-5) y9 hy kl rfl g9) (fun _ _ _ _ _ _ _ _ _ Mq3 g9 => goo Mq3 (9, 0) y9 hy kl hx g9) (fun _ _ _ c => absurd m1 c) (fun _ _ _ c => absurd m1 c) (fun _ _ _ c => absurd m1 c) (fun _ _ _ c => absurd m1 c) (fun _ _ _ c => absurd m1 c) (fun _ _ _ c => absurd m1 c) (fun _ _ _ c => absurd m1 c) (fun _ _ _ c => absurd m1 c) (fun _ _ _ c => absurd m1 c)
  · rw [if_neg c1] at hx
    by_cases c2 : tk_wd (tk_tok tp k9) = some 22
    · have t2 := tk_wd_2 c2
      have kl : k9 < tp.length := tk_in (by rw [t2]; decide)
      have ci := rc_i1000 hi (show k9 < 1000 by omega)
      have m1 : ¬ M.1 1 7 = 21 := fun c => c1 ((w21 t2).mp c)
      have m2 := (w22 t2).mpr c2
      have ms := s2.mpr t2
      rw [if_pos c2] at hx
      obtain ⟨y9, hy⟩ := gr_ex hx
      rw [hy] at hx
      exact sX7_readTests_8 (Q0 := fun _ => True) (Q1 := fun _ => True) (Q2 := fun _ => True) (Q3 := fun _ => True) (Q4 := fun _ => True) (Q5 := fun _ => True) (Q6 := fun M' => rc_R M' tp (.ok (k9 + 1)) ∧ rc_rf M M') (Q7 := fun M' => rc_gp r9 tp M y9 M') (Q8 := fun M' => rc_gp r9 tp M (gr_j (10, 0) y9) M') (Q9 := fun _ => True) (Q10 := fun _ => True) (Q11 := fun _ => True) hX h8 (fun c => absurd c ci) (fun _ c => absurd hR.f0 c) (fun _ _ c => absurd ms c) (fun _ _ _ c => absurd c m1) (fun _ _ _ c => absurd c m1) (fun _ _ _ c => absurd c m1) (fun _ _ _ c => absurd c m1) (fun _ _ _ c => absurd c m1) (fun _ _ _ c => absurd c m1) (fun _ _ _ c => absurd c m1) (fun _ _ _ c => absurd c m1) (fun _ _ _ _ c => absurd m2 c) (fun _ _ _ _ _ _ => nxt) (fun _ _ _ _ _ _ Mq1 g9 => rig Mq1 y9 hy kl g9) (fun _ _ _ _ _ _ _ _ Mq2 g9 => joi Mq2 (10, 0) (-6) y9 hy kl rfl g9) (fun _ _ _ _ _ _ _ _ _ _ Mq3 g9 => goo Mq3 (10, 0) y9 hy kl hx g9) (fun _ _ _ _ _ c => absurd c m1) (fun _ _ _ _ _ c => absurd c m1) (fun _ _ _ _ _ c => absurd c m1) (fun _ _ _ _ _ c => absurd c m1)
    · rw [if_neg c2] at hx
      rw [← Option.some.inj hx]
      have ok9 : (fun (q : Option Value) (M' : pg_M) => q = none ∧ rc_gp r9 tp M (.ok (k9, cs)) M') none M := ⟨rfl, rc_gf.rfl', hR, hU⟩
      by_cases t2 : (tk_tok tp k9).1 = 2
      · have m1 : ¬ M.1 1 7 = 21 := fun c => c1 ((w21 t2).mp c)
        have m2 : ¬ M.1 1 7 = 22 := fun c => c2 ((w22 t2).mp c)
        exact sX7_readTests_8 (Q0 := fun _ => True) (Q1 := fun _ => True) (Q2 := fun _ => True) (Q3 := fun _ => True) (Q4 := fun _ => True) (Q5 := fun _ => True) (Q6 := fun _ => True) (Q7 := fun _ => True) (Q8 := fun _ => True) (Q9 := fun _ => True) (Q10 := fun _ => True) (Q11 := fun _ => True) hX h8 (fun _ => ok9) (fun _ c => absurd hR.f0 c) (fun _ _ c => absurd (s2.mpr t2) c) (fun _ _ _ c => absurd c m1) (fun _ _ _ c => absurd c m1) (fun _ _ _ c => absurd c m1) (fun _ _ _ c => absurd c m1) (fun _ _ _ c => absurd c m1) (fun _ _ _ c => absurd c m1) (fun _ _ _ c => absurd c m1) (fun _ _ _ c => absurd c m1) (fun _ _ _ _ _ => ok9) (fun _ _ _ _ c => absurd c m2) (fun _ _ _ _ c => absurd c m2) (fun _ _ _ _ c => absurd c m2) (fun _ _ _ _ c => absurd c m2) (fun _ _ _ _ c => absurd c m2) (fun _ _ _ _ c => absurd c m2) (fun _ _ _ _ c => absurd c m2) (fun _ _ _ _ c => absurd c m2)
      · have ms : ¬ M.1 1 4 = 2 := fun c => t2 (s2.mp c)
        exact sX7_readTests_8 (Q0 := fun _ => True) (Q1 := fun _ => True) (Q2 := fun _ => True) (Q3 := fun _ => True) (Q4 := fun _ => True) (Q5 := fun _ => True) (Q6 := fun _ => True) (Q7 := fun _ => True) (Q8 := fun _ => True) (Q9 := fun _ => True) (Q10 := fun _ => True) (Q11 := fun _ => True) hX h8 (fun _ => ok9) (fun _ c => absurd hR.f0 c) (fun _ _ _ => ok9) (fun _ _ c => absurd c ms) (fun _ _ c => absurd c ms) (fun _ _ c => absurd c ms) (fun _ _ c => absurd c ms) (fun _ _ c => absurd c ms) (fun _ _ c => absurd c ms) (fun _ _ c => absurd c ms) (fun _ _ c => absurd c ms) (fun _ _ c => absurd c ms) (fun _ _ c => absurd c ms) (fun _ _ c => absurd c ms) (fun _ _ c => absurd c ms) (fun _ _ c => absurd c ms) (fun _ _ c => absurd c ms) (fun _ _ c => absurd c ms) (fun _ _ c => absurd c ms) (fun _ _ c => absurd c ms)
theorem rc_s5 (hr : 3 ≤ r9) (hX : pg_isX7 Λ) (h8 : pg_isX8 Λ r9) (hk : tk_ok tp) (i3 : rc_G3 S Λ tp r9 f9) : rc_G5 S Λ tp r9 (f9 + 1) := by
  intro D9 d9 k9 cs M x9 hx hd hD hcs hkl hR hU
  obtain ⟨D8, rfl⟩ : ∃ D8, D9 = D8 + 1 := ⟨D9 - 1, by omega⟩
  have hlen := hk.1
  simp only [gr] at hx
  obtain ⟨y9, hy⟩ := gr_ex hx
  rw [hy] at hx
  have fst := i3 D8 d9 k9 cs M y9 hy hd (by omega) hcs hkl hR hU
  cases y9 with
  | error e9 =>
    rw [gr_b_er] at hx
    rw [← Option.some.inj hx]
    refine oX7_readTest (sX7_readTest_0 (Q0 := fun M' => rc_gp r9 tp M (.error e9) M') (Q1 := fun _ => True) (Q2 := fun _ => True) (Q3 := fun _ => True) (Q4 := fun _ => True) (Q5 := fun _ => True) (Q6 := fun _ => True) (Q7 := fun _ => True) (Q8 := fun _ => True) (Q9 := fun _ => True) (Q10 := fun _ => True) (Q11 := fun _ => True) (Q12 := fun _ => True) hX h8 fst (fun Mq1 g9 _ => ⟨rfl, g9⟩) (fun Mq1 g9 c => absurd c g9.2.1.f1) (fun Mq1 g9 c => absurd c g9.2.1.f1) (fun Mq1 g9 c => absurd c g9.2.1.f1) (fun Mq1 g9 c => absurd c g9.2.1.f1) (fun Mq1 g9 c => absurd c g9.2.1.f1) (fun Mq1 g9 c => absurd c g9.2.1.f1) (fun Mq1 g9 c => absurd c g9.2.1.f1) (fun Mq1 g9 c => absurd c g9.2.1.f1) (fun Mq1 g9 c => absurd c g9.2.1.f1) (fun Mq1 g9 c => absurd c g9.2.1.f1) (fun Mq1 g9 c => absurd c g9.2.1.f1) (fun Mq1 g9 c => absurd c g9.2.1.f1) (fun Mq1 g9 c => absurd c g9.2.1.f1) (fun Mq1 g9 c => absurd c g9.2.1.f1) (fun Mq1 g9 c => absurd c g9.2.1.f1) (fun Mq1 g9 c => absurd c g9.2.1.f1) (fun Mq1 g9 c => absurd c g9.2.1.f1))
  | ok p9 =>
    obtain ⟨k1, c1⟩ := p9
    rw [gr_b_ok] at hx
    obtain ⟨b1, b2, b3⟩ := gr_len _ _ _ _ _ _ _ hy hkl
    have s60 : ∀ Mq1, rc_gp r9 tp M (.ok (k1, c1)) Mq1 → (Mq1.1 1 4 = 60 ↔ tk_tok tp k1 = (4, [60])) := fun Mq1 g9 => g9.2.1.tk.s4 (c9 := 60) hk (by omega) (by decide)
    have s61 : ∀ Mq1, rc_gp r9 tp M (.ok (k1, c1)) Mq1 → (Mq1.1 1 4 = 61 ↔ tk_tok tp k1 = (4, [61])) := fun Mq1 g9 => g9.2.1.tk.s4 (c9 := 61) hk (by omega) (by decide)
    have nxt : ∀ Mq1, rc_gp r9 tp M (.ok (k1, c1)) Mq1 → pg_Ev S Λ YX7_next D8 [.ref 1] Mq1 (fun q M' => q = none ∧ (rc_R M' tp (.ok (k1 + 1)) ∧ rc_U M' r9 c1 ∧ rc_gf r9 M M')) := fun Mq1 g9 => by
      have nq := rc_rnext (S := S) (d := D8 - 3) hX hk g9.2.1
      rw [show D8 - 3 + 3 = D8 by omega] at nq
      refine pg_Ev.imp ?_ nq
      rintro q9 M9 ⟨y1, y2, y3⟩
      exact ⟨y1, y2, g9.2.2.rf hr y3, g9.1.trans y3.gf⟩
    have rig : ∀ (z9 : Except Nat (Nat × List (Nat × Int32))) (Mq2 : pg_M), gr tp f9 3 d9 (k1 + 1) c1 = some z9 → k1 < tp.length → rc_R Mq2 tp (.ok (k1 + 1)) ∧ rc_U Mq2 r9 c1 ∧ rc_gf r9 M Mq2 → pg_Ev S Λ YX7_readSum D8 [.ref 1, .ref r9, .int (nI d9)] Mq2 (fun q M' => q = none ∧ rc_gp r9 tp M z9 M') := by
      rintro z9 Mq2 hz kl ⟨g1, g2, g3⟩
      refine pg_Ev.imp ?_ (i3 D8 d9 (k1 + 1) c1 Mq2 z9 hz hd (by omega) (by omega) (by omega) g1 g2)
      rintro q9 M9 ⟨y1, y2⟩
      exact ⟨y1, y2.pre g3⟩
    have joi : ∀ (Mq3 : pg_M) (e8 : Nat × Int32) (v : Int32) (z9 : Except Nat (Nat × List (Nat × Int32))), gr tp f9 3 d9 (k1 + 1) c1 = some z9 → k1 < tp.length → v = gr_c e8 → rc_gp r9 tp M z9 Mq3 → pg_Ev S Λ YX8_add D8 [.ref r9, .int v] Mq3 (fun q M' => q = none ∧ rc_gp r9 tp M (gr_j e8 z9) M') := by
      intro Mq3 e8 v z9 hz kl hv g9
      refine rc_join hv hr h8 hk (fun k2 c2 e9 => ?_) g9
      rw [e9] at hz
      obtain ⟨a1, a2, a3⟩ := gr_len _ _ _ _ _ _ _ hz (by omega)
      omega
    have ends : ∀ (e8 : Nat × Int32) (z9 : Except Nat (Nat × List (Nat × Int32))), gr_b (some z9) (fun k2 c2 => some (.ok (k2, c2 ++ [e8]))) = some x9 → gr_j e8 z9 = x9 := fun e8 z9 hz => by
      cases z9 with
      | error e9 => exact Option.some.inj hz
      | ok p9 => exact Option.some.inj hz
    by_cases c60 : tk_tok tp k1 = (4, [60])
    · have kl : k1 < tp.length := tk_in (by rw [c60]; simp)
      rw [if_pos c60] at hx
      obtain ⟨z9, hz⟩ := gr_ex hx
      rw [hz] at hx
      have ee := ends (7, 0) z9 hx
      refine oX7_readTest (sX7_readTest_0 (Q0 := fun M' => rc_gp r9 tp M (.ok (k1, c1)) M') (Q1 := fun _ => True) (Q2 := fun _ => True) (Q3 := fun _ => True) (Q4 := fun M' => rc_R M' tp (.ok (k1 + 1)) ∧ rc_U M' r9 c1 ∧ rc_gf r9 M M') (Q5 := fun M' => rc_gp r9 tp M z9 M') (Q6 := fun M' => rc_gp r9 tp M (gr_j (7, 0) z9) M') (Q7 := fun _ => True) (Q8 := fun _ => True) (Q9 := fun _ => True) (Q10 := fun _ => True) (Q11 := fun _ => True) (Q12 := fun _ => True) hX h8 fst (fun Mq1 g9 c => absurd g9.2.1.f0 c) (fun Mq1 g9 _ _ c => absurd ((s60 Mq1 g9).mpr c60) c) (fun Mq1 g9 _ _ c => absurd ((s60 Mq1 g9).mpr c60) c) (fun Mq1 g9 _ _ c => absurd ((s60 Mq1 g9).mpr c60) c) (fun Mq1 g9 _ _ c => absurd ((s60 Mq1 g9).mpr c60) c) (fun Mq1 g9 _ _ _ => nxt Mq1 g9) (fun Mq1 g9 _ _ _ Mq2 g8 => rig z9 Mq2 hz kl g8) (fun Mq1 g9 _ _ _ Mq2 _ Mq3 g8 => joi Mq3 (7, 0) (-7) z9 hz kl rfl g8) (fun Mq1 g9 _ _ _ Mq2 _ Mq3 _ Mq4 g8 => ⟨rfl, by rw [← ee]; exact g8⟩) (fun Mq1 g9 _ c => absurd ((s60 Mq1 g9).mpr c60) c) (fun Mq1 g9 _ c => absurd ((s60 Mq1 g9).mpr c60) c) (fun Mq1 g9 _ c => absurd ((s60 Mq1 g9).mpr c60) c) (fun Mq1 g9 _ c => absurd ((s60 Mq1 g9).mpr c60) c) (fun Mq1 g9 _ c => absurd ((s60 Mq1 g9).mpr c60) c) (fun Mq1 g9 _ c => absurd ((s60 Mq1 g9).mpr c60) c) (fun Mq1 g9 _ c => absurd ((s60 Mq1 g9).mpr c60) c) (fun Mq1 g9 _ c => absurd ((s60 Mq1 g9).mpr c60) c) (fun Mq1 g9 _ c => absurd ((s60 Mq1 g9).mpr c60) c))
    · rw [if_neg c60] at hx
      have m1 : ∀ Mq1, rc_gp r9 tp M (.ok (k1, c1)) Mq1 → ¬ Mq1.1 1 4 = 60 := fun Mq1 g9 c => c60 ((s60 Mq1 g9).mp c)
      by_cases c61 : tk_tok tp k1 = (4, [61])
      · have kl : k1 < tp.length := tk_in (by rw [c61]; simp)
        rw [if_pos c61] at hx
        obtain ⟨z9, hz⟩ := gr_ex hx
        rw [hz] at hx
        have ee := ends (8, 0) z9 hx
        refine oX7_readTest (sX7_readTest_0 (Q0 := fun M' => rc_gp r9 tp M (.ok (k1, c1)) M') (Q1 := fun _ => True) (Q2 := fun _ => True) (Q3 := fun _ => True) (Q4 := fun _ => True) (Q5 := fun _ => True) (Q6 := fun _ => True) (Q7 := fun M' => rc_R M' tp (.ok (k1 + 1)) ∧ rc_U M' r9 c1 ∧ rc_gf r9 M M') (Q8 := fun M' => rc_gp r9 tp M z9 M') (Q9 := fun M' => rc_gp r9 tp M (gr_j (8, 0) z9) M') (Q10 := fun _ => True) (Q11 := fun _ => True) (Q12 := fun _ => True) hX h8 fst (fun Mq1 g9 c => absurd g9.2.1.f0 c) (fun Mq1 g9 _ c => absurd c (m1 Mq1 g9)) (fun Mq1 g9 _ c => absurd c (m1 Mq1 g9)) (fun Mq1 g9 _ c => absurd c (m1 Mq1 g9)) (fun Mq1 g9 _ c => absurd c (m1 Mq1 g9)) (fun Mq1 g9 _ c => absurd c (m1 Mq1 g9)) (fun Mq1 g9 _ c => absurd c (m1 Mq1 g9)) (fun Mq1 g9 _ c => absurd c (m1 Mq1 g9)) (fun Mq1 g9 _ c => absurd c (m1 Mq1 g9)) (fun Mq1 g9 _ _ c => absurd ((s61 Mq1 g9).mpr c61) c) (fun Mq1 g9 _ _ _ _ => nxt Mq1 g9) (fun Mq1 g9 _ _ _ _ Mq2 g8 => rig z9 Mq2 hz kl g8) (fun Mq1 g9 _ _ _ _ Mq2 _ Mq3 g8 => joi Mq3 (8, 0) (-8) z9 hz kl rfl g8) (fun Mq1 g9 _ _ _ _ Mq2 _ Mq3 _ Mq4 g8 => ⟨rfl, by rw [← ee]; exact g8⟩) (fun Mq1 g9 _ _ _ c => absurd c (m1 Mq1 g9)) (fun Mq1 g9 _ _ _ c => absurd c (m1 Mq1 g9)) (fun Mq1 g9 _ _ _ c => absurd c (m1 Mq1 g9)) (fun Mq1 g9 _ _ _ c => absurd c (m1 Mq1 g9)))
      · rw [if_neg c61] at hx
        have m2 : ∀ Mq1, rc_gp r9 tp M (.ok (k1, c1)) Mq1 → ¬ Mq1.1 1 4 = 61 := fun Mq1 g9 c => c61 ((s61 Mq1 g9).mp c)
        rw [← Option.some.inj hx]
        refine oX7_readTest (sX7_readTest_0 (Q0 := fun M' => rc_gp r9 tp M (.ok (k1, c1)) M') (Q1 := fun _ => True) (Q2 := fun _ => True) (Q3 := fun _ => True) (Q4 := fun _ => True) (Q5 := fun _ => True) (Q6 := fun _ => True) (Q7 := fun _ => True) (Q8 := fun _ => True) (Q9 := fun _ => True) (Q10 := fun _ => True) (Q11 := fun _ => True) (Q12 := fun _ => True) hX h8 fst (fun Mq1 g9 c => absurd g9.2.1.f0 c) (fun Mq1 g9 _ c => absurd c (m1 Mq1 g9)) (fun Mq1 g9 _ c => absurd c (m1 Mq1 g9)) (fun Mq1 g9 _ c => absurd c (m1 Mq1 g9)) (fun Mq1 g9 _ c => absurd c (m1 Mq1 g9)) (fun Mq1 g9 _ c => absurd c (m1 Mq1 g9)) (fun Mq1 g9 _ c => absurd c (m1 Mq1 g9)) (fun Mq1 g9 _ c => absurd c (m1 Mq1 g9)) (fun Mq1 g9 _ c => absurd c (m1 Mq1 g9)) (fun Mq1 g9 _ _ _ => ⟨rfl, g9⟩) (fun Mq1 g9 _ _ c => absurd c (m2 Mq1 g9)) (fun Mq1 g9 _ _ c => absurd c (m2 Mq1 g9)) (fun Mq1 g9 _ _ c => absurd c (m2 Mq1 g9)) (fun Mq1 g9 _ _ c => absurd c (m2 Mq1 g9)) (fun Mq1 g9 _ _ c => absurd c (m2 Mq1 g9)) (fun Mq1 g9 _ _ c => absurd c (m2 Mq1 g9)) (fun Mq1 g9 _ _ c => absurd c (m2 Mq1 g9)) (fun Mq1 g9 _ _ c => absurd c (m2 Mq1 g9)))
/-- the class reads laws as the grammar says -/
theorem rc_gr (hr : 3 ≤ r9) (hX : pg_isX7 Λ) (h8 : pg_isX8 Λ r9) (hk : tk_ok tp) : ∀ f9, rc_G0 S Λ tp r9 f9 ∧ rc_G1 S Λ tp r9 f9 ∧ rc_G2 S Λ tp r9 f9 ∧ rc_G3 S Λ tp r9 f9 ∧ rc_G4 S Λ tp r9 f9 ∧ rc_G5 S Λ tp r9 f9 ∧ rc_G6 S Λ tp r9 f9 ∧ rc_G7 S Λ tp r9 f9 := by
  intro f9
  induction f9 with
  | zero =>
    refine ⟨?_, ?_, ?_, ?_, ?_, ?_, ?_, ?_⟩
    · intro D9 d9 k9 cs M x9 hx; simp only [gr] at hx; cases hx
    · intro D9 d9 k9 cs M x9 hx; simp only [gr] at hx; cases hx
    · intro D9 d9 k9 i9 cs M x9 hx; simp only [gr] at hx; cases hx
    · intro D9 d9 k9 cs M x9 hx; simp only [gr] at hx; cases hx
    · intro D9 d9 k9 i9 cs M x9 hx; simp only [gr] at hx; cases hx
    · intro D9 d9 k9 cs M x9 hx; simp only [gr] at hx; cases hx
    · intro D9 d9 k9 cs M x9 hx; simp only [gr] at hx; cases hx
    · intro D9 d9 k9 i9 cs M x9 hx; simp only [gr] at hx; cases hx
  | succ f9 ih9 =>
    obtain ⟨j0, j1, j2, j3, j4, j5, j6, j7⟩ := ih9
    exact ⟨rc_s0 hr hX h8 hk j0 j6, rc_s1 hX h8 j0 j2, rc_s2 hr hX h8 hk j0 j2, rc_s3 hX h8 j1 j4, rc_s4 hr hX h8 hk j1 j4, rc_s5 hr hX h8 hk j3, rc_s6 hX h8 j5 j7, rc_s7 hr hX h8 hk j5 j7⟩
end PGR
