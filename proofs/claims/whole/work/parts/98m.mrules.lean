/-! THE GRAMMAR of laws: the reference reads products -/
section PGR
variable {S : pg_S} {Λ : pg_L} {tp : List Nat} {a9 n9 f9 : Nat}
def rm_G0 (S : pg_S) (Λ : pg_L) (tp : List Nat) (a9 n9 f9 : Nat) : Prop := ∀ D9 d9 k9 cs M x9, gr tp f9 0 d9 k9 cs = some x9 → d9 ≤ 5 → 4 + 5 * (5 - d9) ≤ D9 → a9 + cs.length ≤ k9 → k9 ≤ tp.length → rm_R M tp n9 (.ok k9) → rm_cd M a9 cs → pg_Ev S Λ YX11_takePart D9 [.ref 207, .int (nI d9)] M (fun q M' => q = none ∧ rm_gp a9 n9 tp k9 cs.length M x9 M')
def rm_G1 (S : pg_S) (Λ : pg_L) (tp : List Nat) (a9 n9 f9 : Nat) : Prop := ∀ D9 d9 k9 cs M x9, gr tp f9 1 d9 k9 cs = some x9 → d9 ≤ 5 → 5 + 5 * (5 - d9) ≤ D9 → a9 + cs.length ≤ k9 → k9 ≤ tp.length → rm_R M tp n9 (.ok k9) → rm_cd M a9 cs → pg_Ev S Λ YX11_products D9 [.ref 207, .int (nI d9)] M (fun q M' => q = none ∧ rm_gp a9 n9 tp k9 cs.length M x9 M')
def rm_G2 (S : pg_S) (Λ : pg_L) (tp : List Nat) (a9 n9 f9 : Nat) : Prop := ∀ D9 d9 k9 cs M x9, gr tp f9 2 d9 k9 cs = some x9 → d9 ≤ 5 → 4 + 5 * (5 - d9) ≤ D9 → a9 + cs.length ≤ k9 → k9 ≤ tp.length → rm_R M tp n9 (.ok k9) → rm_cd M a9 cs → pg_At S Λ YX11_products (D9 + 1) 5 [(0, .ref 207), (1, .int (nI d9))] [] M (fun q M' => q = none ∧ rm_gp a9 n9 tp k9 cs.length M x9 M')
/-- a reading that goes on from where another ended -/
theorem rm_gp.pre {M Mq1 M' : pg_M} {k9 k1 l9 l1 : Nat} {x9 : Except Nat (Nat × List (Nat × Int32))} (g1 : rm_gf a9 M Mq1) (hl : l1 + k9 ≤ l9 + k1) (g2 : rm_gp a9 n9 tp k1 l1 Mq1 x9 M') : rm_gp a9 n9 tp k9 l9 M x9 M' := by
  refine ⟨g1.trans g2.1, ?_⟩
  have h2 := g2.2
  cases x9 with
  | error e9 =>
    obtain ⟨g5, c9, f9, h3, h4, h5, h6⟩ := h2
    exact ⟨g5, c9, f9, h3, h4, h5, by omega⟩
  | ok p9 => exact h2
theorem rm_hasSign_e {d c9 e9 : Nat} {M : pg_M} (hc : c9 < 128) (hX : pg_isX11 Λ) (hk : tk_ok tp) (hR : rm_R M tp n9 (.error e9)) : pg_Ev S Λ YX11_hasSign (d + 1) [.ref 207, .int (nI c9)] M (fun r M' => ∃ v, r = some (.int v) ∧ (v = 0 ∧ M' = M)) := by
  have e0 : pg_si M 207 7 ((M.1 207 7) + 0) = M := by
    have : (M.1 207 7) + 0 = M.1 207 7 := Int32.add_zero _
    rw [this]
    exact pg_si_self M 207 7
  refine oX11_hasSign (sX11_hasSign_0 (Q0 := fun v M' => v = b2i (tk_isS tp c9 (.error e9)) ∧ M' = M) hX (rm_isSign hc hX hk hR) ?_ ?_ ?_ ?_)
  · rintro v9 Mq1 ⟨rfl, e9⟩ q9
    rw [e9, e0]
    exact ⟨_, rfl, rfl, rfl⟩
  · rintro v9 Mq1 ⟨rfl, e9⟩ q9; rw [q9]; rfl
  · rintro v9 Mq1 ⟨rfl, e9⟩ q9; exact absurd rfl q9
  · rintro v9 Mq1 ⟨rfl, e9⟩ q9; exact absurd rfl q9
/-- a fault ends the rest of a product -/
theorem rm_x2 {D8 d9 k9 l9 e9 : Nat} {M Mq1 : pg_M} (hD : 1 ≤ D8) (hX : pg_isX11 Λ) (hk : tk_ok tp) (g : rm_gp a9 n9 tp k9 l9 M (.error e9) Mq1) : pg_At S Λ YX11_products (D8 + 1) 5 [(0, .ref 207), (1, .int (nI d9))] [] Mq1 (fun q M' => q = none ∧ rm_gp a9 n9 tp k9 l9 M (.error e9) M') := by
  have hs := rm_hasSign_e (S := S) (Λ := Λ) (d := D8 - 1) (c9 := 42) (by omega) hX hk g.2.1
  rw [show D8 - 1 + 1 = D8 by omega] at hs
  refine sX11_products_5 (Q0 := fun v M' => v = 0 ∧ M' = Mq1) (Q1 := fun _ => True) (Q2 := fun _ => True) hX hs ?_ ?_ ?_ ?_
  · rintro v9 Mq2 ⟨_, e8⟩ _; rw [e8]; exact ⟨rfl, g⟩
  · rintro v9 Mq2 ⟨e8, _⟩ q9; exact absurd e8 q9
  · rintro v9 Mq2 ⟨e8, _⟩ q9; exact absurd e8 q9
  · rintro v9 Mq2 ⟨e8, _⟩ q9; exact absurd e8 q9
theorem rm_s1 (hX : pg_isX11 Λ) (hk : tk_ok tp) (i0 : rm_G0 S Λ tp a9 n9 f9) (i2 : rm_G2 S Λ tp a9 n9 f9) : rm_G1 S Λ tp a9 n9 (f9 + 1) := by
  intro D9 d9 k9 cs M x9 hx hd hD hcs hkl hR hU
  obtain ⟨D8, rfl⟩ : ∃ D8, D9 = D8 + 1 := ⟨D9 - 1, by omega⟩
  simp only [gr] at hx
  obtain ⟨y9, hy⟩ := gr_ex hx
  rw [hy] at hx
  refine oX11_products (sX11_products_0 (Q0 := fun M' => rm_gp a9 n9 tp k9 cs.length M y9 M') hX (i0 D8 d9 k9 cs M y9 hy hd (by omega) hcs hkl hR hU) ?_)
  rintro Mq1 ⟨g1, g2⟩
  cases y9 with
  | error e9 =>
    rw [gr_b_er] at hx
    rw [← Option.some.inj hx]
    exact rm_x2 (by omega) hX hk ⟨g1, g2⟩
  | ok p9 =>
    obtain ⟨k1, c1⟩ := p9
    rw [gr_b_ok] at hx
    obtain ⟨b1, b2, b3⟩ := gr_len _ _ _ _ _ _ _ hy hkl
    refine pg_At.imp ?_ (i2 D8 d9 k1 c1 Mq1 x9 hx hd (by omega) (by omega) b2 g2.1 g2.2)
    rintro q9 M9 ⟨y1, y2⟩
    exact ⟨y1, y2.pre g1 (by omega)⟩
theorem rm_s2 (hX : pg_isX11 Λ) (hk : tk_ok tp) (hn : n9 ≤ 1000) (i0 : rm_G0 S Λ tp a9 n9 f9) (i2 : rm_G2 S Λ tp a9 n9 f9) : rm_G2 S Λ tp a9 n9 (f9 + 1) := by
  intro D9 d9 k9 cs M x9 hx hd hD hcs hkl hR hU
  have hlen := hk.1
  simp only [gr] at hx
  have hs := rm_hasSign (S := S) (Λ := Λ) (d := D9 - 1) (c9 := 42) (by omega) hX hk hR
  rw [show D9 - 1 + 1 = D9 by omega] at hs
  by_cases c1 : tk_tok tp k9 = (4, [42])
  · have kl : k9 < tp.length := tk_in (by rw [c1]; simp)
    have ti : tk_isS tp 42 (.ok k9) = true := decide_eq_true c1
    rw [if_pos c1] at hx
    obtain ⟨y9, hy⟩ := gr_ex hx
    rw [hy] at hx
    rw [ti] at hs
    refine sX11_products_5 (Q0 := fun v M' => v = b2i true ∧ rm_R M' tp n9 (.ok (k9 + 1)) ∧ rm_rf M M') (Q1 := fun M' => rm_gp a9 n9 tp (k9 + 1) cs.length M y9 M') (Q2 := fun M' => rm_gp a9 n9 tp k9 cs.length M (gr_j (6, 0) y9) M') hX hs ?_ ?_ ?_ ?_
    · rintro v9 Mq1 ⟨e8, _⟩ q9; rw [e8] at q9; exact absurd q9 (by decide)
    · rintro v9 Mq1 ⟨_, g1, g2⟩ _
      refine pg_Ev.imp ?_ (i0 D9 d9 (k9 + 1) cs Mq1 y9 hy hd (by omega) (by omega) (by omega) g1 (hU.rf g2))
      rintro q9 M9 ⟨y1, y2⟩
      exact ⟨y1, y2.pre g2.gf (by omega)⟩
    · rintro v9 Mq1 _ _ Mq2 g9
      refine rm_join (o9 := 6) hX hcs hn (fun k1 c2 e9 => ?_) g9
      rw [e9] at hy
      obtain ⟨b1, b2, b3⟩ := gr_len _ _ _ _ _ _ _ hy (by omega)
      omega
    · rintro v9 Mq1 _ _ Mq2 _ Mq3 g9
      cases y9 with
      | error e9 =>
        rw [gr_b_er] at hx
        rw [← Option.some.inj hx]
        exact rm_x2 (by omega) hX hk g9
      | ok p9 =>
        obtain ⟨k1, c2⟩ := p9
        rw [gr_b_ok] at hx
        obtain ⟨b1, b2, b3⟩ := gr_len _ _ _ _ _ _ _ hy (by omega)
        obtain ⟨g1, g2⟩ := g9
        refine pg_At.imp ?_ (i2 D9 d9 k1 (c2 ++ [(6, 0)]) Mq3 x9 hx hd (by omega) (by simp only [List.length_append, List.length_singleton]; omega) b2 g2.1 g2.2)
        rintro q9 M9 ⟨y1, y2⟩
        exact ⟨y1, y2.pre g1 (by simp only [List.length_append, List.length_singleton]; omega)⟩
  · have ti : tk_isS tp 42 (.ok k9) = false := decide_eq_false c1
    rw [if_neg c1] at hx
    rw [← Option.some.inj hx]
    rw [ti] at hs
    refine sX11_products_5 (Q0 := fun v M' => v = b2i false ∧ rm_R M' tp n9 (.ok k9) ∧ rm_rf M M') (Q1 := fun _ => True) (Q2 := fun _ => True) hX hs ?_ ?_ ?_ ?_
    · rintro v9 Mq1 ⟨_, g1, g2⟩ _; exact ⟨rfl, g2.gf, g1, hU.rf g2⟩
    · rintro v9 Mq1 ⟨e8, _⟩ q9; exact absurd e8 q9
    · rintro v9 Mq1 ⟨e8, _⟩ q9; exact absurd e8 q9
    · rintro v9 Mq1 ⟨e8, _⟩ q9; exact absurd e8 q9
end PGR
