/-! THE GRAMMAR of laws: the class reads products, sums, tests -/
section PGR
variable {S : pg_S} {Λ : pg_L} {tp : List Nat} {r9 f9 : Nat}
theorem rc_i1000 {k9 i9 : Nat} (hi : i9 ≤ k9) (hk : k9 < 1000) : ¬ (1000 : Int32) ≤ nI i9 := nI_ge (b := 1000) (by omega) (by decide)
theorem gr_ex {y9 : gr_R} {F9 : Nat → List (Nat × Int32) → gr_R} {x9 : Except Nat (Nat × List (Nat × Int32))} (hh : gr_b y9 F9 = some x9) : ∃ z9, y9 = some z9 := by
  rcases gr_b_cases hh with ⟨e9, z9, _⟩ | ⟨k1, c1, z9, _⟩
  · exact ⟨_, z9⟩
  · exact ⟨_, z9⟩
def gr_j (e8 : Nat × Int32) (y9 : Except Nat (Nat × List (Nat × Int32))) : Except Nat (Nat × List (Nat × Int32)) := match y9 with
  | .ok p9 => .ok (p9.1, p9.2 ++ [e8])
  | .error e9 => .error e9
/-- a joiner behind its right side -/
theorem rc_join {D8 : Nat} {e8 : Nat × Int32} {v : Int32} {M Mq2 : pg_M} {y9 : Except Nat (Nat × List (Nat × Int32))} (hv : v = gr_c e8) (hr : 3 ≤ r9) (h8 : pg_isX8 Λ r9) (hk : tk_ok tp) (hlen : ∀ k1 c1, y9 = .ok (k1, c1) → c1.length < 1000) (g : rc_gp r9 tp M y9 Mq2) : pg_Ev S Λ YX8_add D8 [.ref r9, .int v] Mq2 (fun q M' => q = none ∧ rc_gp r9 tp M (gr_j e8 y9) M') := by
  obtain ⟨g3, g4⟩ := g
  cases y9 with
  | error e9 =>
    refine pg_Ev.imp ?_ (rc_radd_any hv hr h8 g4.2)
    rintro q9 M9 ⟨y1, y2, y3⟩
    exact ⟨y1, g3.trans (rc_gf.ad hr y3), g4.1.ad hr y3, y2⟩
  | ok p9 =>
    refine pg_Ev.imp ?_ (rc_radd hv (hlen p9.1 p9.2 rfl) hr h8 g4.2)
    rintro q9 M9 ⟨y1, y2, y3⟩
    exact ⟨y1, g3.trans (rc_gf.ad hr y3), g4.1.ad hr y3, y2⟩
theorem rc_s1 (hX : pg_isX7 Λ) (h8 : pg_isX8 Λ r9) (i0 : rc_G0 S Λ tp r9 f9) (i2 : rc_G2 S Λ tp r9 f9) : rc_G1 S Λ tp r9 (f9 + 1) := by
  intro D9 d9 k9 cs M x9 hx hd hD hcs hkl hR hU
  obtain ⟨D8, rfl⟩ : ∃ D8, D9 = D8 + 1 := ⟨D9 - 1, by omega⟩
  simp only [gr] at hx
  obtain ⟨y9, hy⟩ := gr_ex hx
  rw [hy] at hx
  refine oX7_readProduct (sX7_readProduct_0 (Q0 := fun M' => rc_gp r9 tp M y9 M') hX (i0 D8 d9 k9 cs M y9 hy hd (by omega) hcs hkl hR hU) ?_)
  rintro Mq1 ⟨g1, g2⟩
  cases y9 with
  | error e9 =>
    rw [gr_b_er] at hx
    rw [← Option.some.inj hx]
    have nf := g2.1.f1
    exact sX7_readProduct_8 (Q0 := fun _ => True) (Q1 := fun _ => True) (Q2 := fun _ => True) hX h8 (fun _ => ⟨rfl, g1, g2⟩) (fun _ _ => ⟨rfl, g1, g2⟩) (fun _ c => absurd c nf) (fun _ c => absurd c nf) (fun _ c => absurd c nf) (fun _ c => absurd c nf) (fun _ c => absurd c nf)
  | ok p9 =>
    obtain ⟨k1, c1⟩ := p9
    rw [gr_b_ok] at hx
    obtain ⟨b1, b2, b3⟩ := gr_len _ _ _ _ _ _ _ hy hkl
    refine pg_At.imp ?_ (i2 D8 d9 k1 0 c1 Mq1 x9 hx hd (by omega) (by omega) (by omega) b2 g2.1 g2.2)
    rintro q9 M9 ⟨y1, y2⟩
    exact ⟨y1, y2.pre g1⟩
theorem rc_s2 (hr : 3 ≤ r9) (hX : pg_isX7 Λ) (h8 : pg_isX8 Λ r9) (hk : tk_ok tp) (i0 : rc_G0 S Λ tp r9 f9) (i2 : rc_G2 S Λ tp r9 f9) : rc_G2 S Λ tp r9 (f9 + 1) := by
  intro D9 d9 k9 i9 cs M x9 hx hd hD hi hcs hkl hR hU
  have hlen := hk.1
  have s42 : M.1 1 4 = 42 ↔ tk_tok tp k9 = (4, [42]) := hR.tk.s4 (c9 := 42) hk (by omega) (by decide)
  simp only [gr] at hx
  by_cases c1 : tk_tok tp k9 = (4, [42])
  · have kl : k9 < tp.length := tk_in (by rw [c1]; simp)
    have ci := rc_i1000 hi (show k9 < 1000 by omega)
    rw [if_pos c1] at hx
    obtain ⟨y9, hy⟩ := gr_ex hx
    rw [hy] at hx
    have nxt := rc_rnext (S := S) (d := D9 - 3) hX hk hR
    rw [show D9 - 3 + 3 = D9 by omega] at nxt
    refine sX7_readProduct_8 (Q0 := fun M' => rc_R M' tp (.ok (k9 + 1)) ∧ rc_rf M M') (Q1 := fun M' => rc_gp r9 tp M y9 M') (Q2 := fun M' => rc_gp r9 tp M (gr_j (6, 0) y9) M') hX h8 (fun c => absurd c ci) (fun _ c => absurd hR.f0 c) (fun _ _ c => absurd (s42.mpr c1) c) (fun _ _ _ => nxt) ?_ ?_ ?_
    · rintro _ _ _ Mq1 ⟨g1, g2⟩
      refine pg_Ev.imp ?_ (i0 D9 d9 (k9 + 1) cs Mq1 y9 hy hd (by omega) (by omega) (by omega) g1 (hU.rf hr g2))
      rintro q9 M9 ⟨y1, y2⟩
      exact ⟨y1, y2.pre g2.gf⟩
    · rintro _ _ _ Mq1 _ Mq2 g9
      refine rc_join (e8 := (6, 0)) rfl hr h8 hk (fun k1 c2 e9 => ?_) g9
      rw [e9] at hy
      obtain ⟨b1, b2, b3⟩ := gr_len _ _ _ _ _ _ _ hy (by omega)
      omega
    · rintro _ _ _ Mq1 _ Mq2 _ Mq3 ⟨g1, g2⟩
      rw [nI_1]
      cases y9 with
      | error e9 =>
        rw [gr_b_er] at hx
        rw [← Option.some.inj hx]
        have nf := g2.1.f1
        exact sX7_readProduct_8 (Q0 := fun _ => True) (Q1 := fun _ => True) (Q2 := fun _ => True) hX h8 (fun _ => ⟨rfl, g1, g2⟩) (fun _ _ => ⟨rfl, g1, g2⟩) (fun _ c => absurd c nf) (fun _ c => absurd c nf) (fun _ c => absurd c nf) (fun _ c => absurd c nf) (fun _ c => absurd c nf)
      | ok p9 =>
        obtain ⟨k1, c2⟩ := p9
        rw [gr_b_ok] at hx
        obtain ⟨b1, b2, b3⟩ := gr_len _ _ _ _ _ _ _ hy (by omega)
        refine pg_At.imp ?_ (i2 D9 d9 k1 (i9 + 1) (c2 ++ [(6, 0)]) Mq3 x9 hx hd (by omega) (by omega) (by simp only [List.length_append, List.length_singleton]; omega) b2 g2.1 g2.2)
        rintro q9 M9 ⟨y1, y2⟩
        exact ⟨y1, y2.pre g1⟩
  · rw [if_neg c1] at hx
    rw [← Option.some.inj hx]
    have nc : ¬ M.1 1 4 = 42 := fun c => c1 (s42.mp c)
    exact sX7_readProduct_8 (Q0 := fun _ => True) (Q1 := fun _ => True) (Q2 := fun _ => True) hX h8 (fun _ => ⟨rfl, rc_gf.rfl', hR, hU⟩) (fun _ c => absurd hR.f0 c) (fun _ _ _ => ⟨rfl, rc_gf.rfl', hR, hU⟩) (fun _ _ c => absurd c nc) (fun _ _ c => absurd c nc) (fun _ _ c => absurd c nc) (fun _ _ c => absurd c nc)
theorem rc_s3 (hX : pg_isX7 Λ) (h8 : pg_isX8 Λ r9) (i1 : rc_G1 S Λ tp r9 f9) (i4 : rc_G4 S Λ tp r9 f9) : rc_G3 S Λ tp r9 (f9 + 1) := by
  intro D9 d9 k9 cs M x9 hx hd hD hcs hkl hR hU
  obtain ⟨D8, rfl⟩ : ∃ D8, D9 = D8 + 1 := ⟨D9 - 1, by omega⟩
  simp only [gr] at hx
  obtain ⟨y9, hy⟩ := gr_ex hx
  rw [hy] at hx
  refine oX7_readSum (sX7_readSum_0 (Q0 := fun M' => rc_gp r9 tp M y9 M') hX (i1 D8 d9 k9 cs M y9 hy hd (by omega) hcs hkl hR hU) ?_)
  rintro Mq1 ⟨g1, g2⟩
  cases y9 with
  | error e9 =>
    rw [gr_b_er] at hx
    rw [← Option.some.inj hx]
    have nf := g2.1.f1
    exact sX7_readSum_8 (Q0 := fun _ => True) (Q1 := fun _ => True) (Q2 := fun _ => True) (Q3 := fun _ => True) (Q4 := fun _ => True) (Q5 := fun _ => True) (Q6 := fun _ => True) (Q7 := fun _ => True) (Q8 := fun _ => True) (Q9 := fun _ => True) (Q10 := fun _ => True) (Q11 := fun _ => True) hX h8 (fun _ => ⟨rfl, g1, g2⟩) (fun _ _ => ⟨rfl, g1, g2⟩) (fun _ c => absurd c nf) (fun _ c => absurd c nf) (fun _ c => absurd c nf) (fun _ c => absurd c nf) (fun _ c => absurd c nf) (fun _ c => absurd c nf) (fun _ c => absurd c nf) (fun _ c => absurd c nf) (fun _ c => absurd c nf) (fun _ c => absurd c nf) (fun _ c => absurd c nf) (fun _ c => absurd c nf) (fun _ c => absurd c nf) (fun _ c => absurd c nf) (fun _ c => absurd c nf) (fun _ c => absurd c nf) (fun _ c => absurd c nf)
  | ok p9 =>
    obtain ⟨k1, c1⟩ := p9
    rw [gr_b_ok] at hx
    obtain ⟨b1, b2, b3⟩ := gr_len _ _ _ _ _ _ _ hy hkl
    refine pg_At.imp ?_ (i4 D8 d9 k1 0 c1 Mq1 x9 hx hd (by omega) (by omega) (by omega) b2 g2.1 g2.2)
    rintro q9 M9 ⟨y1, y2⟩
    exact ⟨y1, y2.pre g1⟩
theorem rc_s6 (hX : pg_isX7 Λ) (h8 : pg_isX8 Λ r9) (i5 : rc_G5 S Λ tp r9 f9) (i7 : rc_G7 S Λ tp r9 f9) : rc_G6 S Λ tp r9 (f9 + 1) := by
  intro D9 d9 k9 cs M x9 hx hd hD hcs hkl hR hU
  obtain ⟨D8, rfl⟩ : ∃ D8, D9 = D8 + 1 := ⟨D9 - 1, by omega⟩
  simp only [gr] at hx
  obtain ⟨y9, hy⟩ := gr_ex hx
  rw [hy] at hx
  refine oX7_readTests (sX7_readTests_0 (Q0 := fun M' => rc_gp r9 tp M y9 M') hX (i5 D8 d9 k9 cs M y9 hy hd (by omega) hcs hkl hR hU) ?_)
  rintro Mq1 ⟨g1, g2⟩
  cases y9 with
  | error e9 =>
    rw [gr_b_er] at hx
    rw [← Option.some.inj hx]
    have nf := g2.1.f1
    exact sX7_readTests_8 (Q0 := fun _ => True) (Q1 := fun _ => True) (Q2 := fun _ => True) (Q3 := fun _ => True) (Q4 := fun _ => True) (Q5 := fun _ => True) (Q6 := fun _ => True) (Q7 := fun _ => True) (Q8 := fun _ => True) (Q9 := fun _ => True) (Q10 := fun _ => True) (Q11 := fun _ => True) hX h8 (fun _ => ⟨rfl, g1, g2⟩) (fun _ _ => ⟨rfl, g1, g2⟩) (fun _ c => absurd c nf) (fun _ c => absurd c nf) (fun _ c => absurd c nf) (fun _ c => absurd c nf) (fun _ c => absurd c nf) (fun _ c => absurd c nf) (fun _ c => absurd c nf) (fun _ c => absurd c nf) (fun _ c => absurd c nf) (fun _ c => absurd c nf) (fun _ c => absurd c nf) (fun _ c => absurd c nf) (fun _ c => absurd c nf) (fun _ c => absurd c nf) (fun _ c => absurd c nf) (fun _ c => absurd c nf) (fun _ c => absurd c nf) (fun _ c => absurd c nf)
  | ok p9 =>
    obtain ⟨k1, c1⟩ := p9
    rw [gr_b_ok] at hx
    obtain ⟨b1, b2, b3⟩ := gr_len _ _ _ _ _ _ _ hy hkl
    refine pg_At.imp ?_ (i7 D8 d9 k1 0 c1 Mq1 x9 hx hd (by omega) (by omega) (by omega) b2 g2.1 g2.2)
    rintro q9 M9 ⟨y1, y2⟩
    exact ⟨y1, y2.pre g1⟩
end PGR
