/-! THE GRAMMAR of laws: the reference reads sums and tests -/
section PGR
variable {S : pg_S} {Λ : pg_L} {tp : List Nat} {a9 n9 f9 : Nat}
def rm_G3 (S : pg_S) (Λ : pg_L) (tp : List Nat) (a9 n9 f9 : Nat) : Prop := ∀ D9 d9 k9 cs M x9, gr tp f9 3 d9 k9 cs = some x9 → d9 ≤ 5 → 6 + 5 * (5 - d9) ≤ D9 → a9 + cs.length ≤ k9 → k9 ≤ tp.length → rm_R M tp n9 (.ok k9) → rm_cd M a9 cs → pg_Ev S Λ YX11_sums D9 [.ref 207, .int (nI d9)] M (fun q M' => q = none ∧ rm_gp a9 n9 tp k9 cs.length M x9 M')
def rm_G4 (S : pg_S) (Λ : pg_L) (tp : List Nat) (a9 n9 f9 : Nat) : Prop := ∀ D9 d9 k9 cs M x9, gr tp f9 4 d9 k9 cs = some x9 → d9 ≤ 5 → 5 + 5 * (5 - d9) ≤ D9 → a9 + cs.length ≤ k9 → k9 ≤ tp.length → rm_R M tp n9 (.ok k9) → rm_cd M a9 cs → pg_At S Λ YX11_sums (D9 + 1) 5 [(0, .ref 207), (1, .int (nI d9))] [] M (fun q M' => q = none ∧ rm_gp a9 n9 tp k9 cs.length M x9 M')
def rm_G5 (S : pg_S) (Λ : pg_L) (tp : List Nat) (a9 n9 f9 : Nat) : Prop := ∀ D9 d9 k9 cs M x9, gr tp f9 5 d9 k9 cs = some x9 → d9 ≤ 5 → 7 + 5 * (5 - d9) ≤ D9 → a9 + cs.length ≤ k9 → k9 ≤ tp.length → rm_R M tp n9 (.ok k9) → rm_cd M a9 cs → pg_Ev S Λ YX11_test D9 [.ref 207, .int (nI d9)] M (fun q M' => q = none ∧ rm_gp a9 n9 tp k9 cs.length M x9 M')
def rm_G6 (S : pg_S) (Λ : pg_L) (tp : List Nat) (a9 n9 f9 : Nat) : Prop := ∀ D9 d9 k9 cs M x9, gr tp f9 6 d9 k9 cs = some x9 → d9 ≤ 5 → 8 + 5 * (5 - d9) ≤ D9 → a9 + cs.length ≤ k9 → k9 ≤ tp.length → rm_R M tp n9 (.ok k9) → rm_cd M a9 cs → pg_Ev S Λ YX11_all D9 [.ref 207, .int (nI d9)] M (fun q M' => q = none ∧ rm_gp a9 n9 tp k9 cs.length M x9 M')
def rm_G7 (S : pg_S) (Λ : pg_L) (tp : List Nat) (a9 n9 f9 : Nat) : Prop := ∀ D9 d9 k9 cs M x9, gr tp f9 7 d9 k9 cs = some x9 → d9 ≤ 5 → 7 + 5 * (5 - d9) ≤ D9 → a9 + cs.length ≤ k9 → k9 ≤ tp.length → rm_R M tp n9 (.ok k9) → rm_cd M a9 cs → pg_At S Λ YX11_all (D9 + 1) 5 [(0, .ref 207), (1, .int (nI d9))] [] M (fun q M' => q = none ∧ rm_gp a9 n9 tp k9 cs.length M x9 M')
/-- a fault ends the rest -/
theorem rm_x4 {D8 d9 k9 l9 e9 : Nat} {M Mq1 : pg_M} (hX : pg_isX11 Λ) (hk : tk_ok tp) (g : rm_gp a9 n9 tp k9 l9 M (.error e9) Mq1) : pg_At S Λ YX11_sums (D8 + 1) 5 [(0, .ref 207), (1, .int (nI d9))] [] Mq1 (fun q M' => q = none ∧ rm_gp a9 n9 tp k9 l9 M (.error e9) M') := by
  have hs1 := rm_isSign (S := S) (Λ := Λ) (d := D8) (c9 := 43) (by omega) hX hk g.2.1
  have hs2 := rm_isSign (S := S) (Λ := Λ) (d := D8) (c9 := 45) (by omega) hX hk g.2.1
  refine sX11_sums_5 (Q0 := fun v M' => v = 0 ∧ M' = Mq1) (Q1 := fun _ _ => True) (Q2 := fun _ => True) (Q3 := fun _ => True) (Q4 := fun _ => True) (Q5 := fun v M' => v = 0 ∧ M' = Mq1) (Q6 := fun _ _ => True) (Q7 := fun _ => True) (Q8 := fun _ => True) (Q9 := fun _ => True) hX hs1 ?_ ?_ ?_ ?_ ?_ ?_ ?_ ?_ ?_ ?_ ?_ ?_ ?_ ?_
  · rintro v9 Mq2 ⟨e8, _⟩ q9; exact absurd e8 q9
  · rintro v9 Mq2 ⟨e8, _⟩ q9; exact absurd e8 q9
  · rintro v9 Mq2 ⟨e8, _⟩ q9; exact absurd e8 q9
  · rintro v9 Mq2 ⟨e8, _⟩ q9; exact absurd e8 q9
  · rintro v9 Mq2 ⟨e8, _⟩ q9; exact absurd e8 q9
  · rintro v9 Mq2 ⟨e8, _⟩ q9; exact absurd e8 q9
  · rintro v9 Mq2 ⟨_, e8⟩ _; rw [e8]; exact hs2
  · rintro v9 Mq2 _ _ v8 Mq3 ⟨_, e8⟩ _; rw [e8]; exact ⟨rfl, g⟩
  · rintro v9 Mq2 _ _ v8 Mq3 ⟨e8, _⟩ q9; exact absurd e8 q9
  · rintro v9 Mq2 _ _ v8 Mq3 ⟨e8, _⟩ q9; exact absurd e8 q9
  · rintro v9 Mq2 _ _ v8 Mq3 ⟨e8, _⟩ q9; exact absurd e8 q9
  · rintro v9 Mq2 _ _ v8 Mq3 ⟨e8, _⟩ q9; exact absurd e8 q9
  · rintro v9 Mq2 _ _ v8 Mq3 ⟨e8, _⟩ q9; exact absurd e8 q9
  · rintro v9 Mq2 _ _ v8 Mq3 ⟨e8, _⟩ q9; exact absurd e8 q9
theorem rm_s3 (hX : pg_isX11 Λ) (hk : tk_ok tp) (i1 : rm_G1 S Λ tp a9 n9 f9) (i4 : rm_G4 S Λ tp a9 n9 f9) : rm_G3 S Λ tp a9 n9 (f9 + 1) := by
  intro D9 d9 k9 cs M x9 hx hd hD hcs hkl hR hU
  obtain ⟨D8, rfl⟩ : ∃ D8, D9 = D8 + 1 := ⟨D9 - 1, by omega⟩
  simp only [gr] at hx
  obtain ⟨y9, hy⟩ := gr_ex hx
  rw [hy] at hx
  refine oX11_sums (sX11_sums_0 (Q0 := fun M' => rm_gp a9 n9 tp k9 cs.length M y9 M') hX (i1 D8 d9 k9 cs M y9 hy hd (by omega) hcs hkl hR hU) ?_)
  rintro Mq1 ⟨g1, g2⟩
  cases y9 with
  | error e9 =>
    rw [gr_b_er] at hx
    rw [← Option.some.inj hx]
    exact rm_x4 hX hk ⟨g1, g2⟩
  | ok p9 =>
    obtain ⟨k1, c1⟩ := p9
    rw [gr_b_ok] at hx
    obtain ⟨b1, b2, b3⟩ := gr_len _ _ _ _ _ _ _ hy hkl
    refine pg_At.imp ?_ (i4 D8 d9 k1 c1 Mq1 x9 hx hd (by omega) (by omega) b2 g2.1 g2.2)
    rintro q9 M9 ⟨y1, y2⟩
    exact ⟨y1, y2.pre g1 (by omega)⟩
theorem rm_s4 (hX : pg_isX11 Λ) (hk : tk_ok tp) (hn : n9 ≤ 1000) (i1 : rm_G1 S Λ tp a9 n9 f9) (i4 : rm_G4 S Λ tp a9 n9 f9) : rm_G4 S Λ tp a9 n9 (f9 + 1) := by
  intro D9 d9 k9 cs M x9 hx hd hD hcs hkl hR hU
  have hlen := hk.1
  have hs1 := rm_isSign (S := S) (Λ := Λ) (d := D9) (c9 := 43) (by omega) hX hk hR
  have hs2 := rm_isSign (S := S) (Λ := Λ) (d := D9) (c9 := 45) (by omega) hX hk hR
  have rig : ∀ y9, gr tp f9 1 d9 (k9 + 1) cs = some y9 → (tk_tok tp k9).1 ≠ 0 → pg_Ev S Λ YX11_products D9 [.ref 207, .int (nI d9)] (pg_si M 207 7 ((M.1 207 7) + 1)) (fun r M' => r = none ∧ rm_gp a9 n9 tp (k9 + 1) cs.length M y9 M') := fun y9 hy ht => by
    have kl : k9 < tp.length := tk_in ht
    obtain ⟨g1, g2⟩ := hR.adv ht
    refine pg_Ev.imp ?_ (i1 D9 d9 (k9 + 1) cs _ y9 hy hd (by omega) (by omega) (by omega) g1 (hU.rf g2))
    rintro q9 M9 ⟨y1, y2⟩
    exact ⟨y1, y2.pre g2.gf (by omega)⟩
  have joi : ∀ o9 y9 Mq2, gr tp f9 1 d9 (k9 + 1) cs = some y9 → (tk_tok tp k9).1 ≠ 0 → rm_gp a9 n9 tp (k9 + 1) cs.length M y9 Mq2 → pg_Ev S Λ YX11_emit D9 [.ref 207, .int (nI o9), .int 0] Mq2 (fun q M' => q = none ∧ rm_gp a9 n9 tp k9 cs.length M (gr_j (o9, 0) y9) M') := fun o9 y9 Mq2 hy ht g9 => by
    have kl : k9 < tp.length := tk_in ht
    refine rm_join (o9 := o9) hX hcs hn (fun k1 c2 e9 => ?_) g9
    rw [e9] at hy
    obtain ⟨b1, b2, b3⟩ := gr_len _ _ _ _ _ _ _ hy (by omega)
    omega
  have goo : ∀ o9 y9 Mq3, gr tp f9 1 d9 (k9 + 1) cs = some y9 → (tk_tok tp k9).1 ≠ 0 → gr_b (some y9) (fun k1 c1 => gr tp f9 4 d9 k1 (c1 ++ [(o9, 0)])) = some x9 → rm_gp a9 n9 tp k9 cs.length M (gr_j (o9, 0) y9) Mq3 → pg_At S Λ YX11_sums (D9 + 1) 5 [(0, .ref 207), (1, .int (nI d9))] [] Mq3 (fun q M' => q = none ∧ rm_gp a9 n9 tp k9 cs.length M x9 M') := fun o9 y9 Mq3 hy ht hz g9 => by
    have kl : k9 < tp.length := tk_in ht
    cases y9 with
    | error e9 =>
      rw [gr_b_er] at hz
      rw [← Option.some.inj hz]
      exact rm_x4 hX hk g9
    | ok p9 =>
      obtain ⟨k1, c2⟩ := p9
      rw [gr_b_ok] at hz
      obtain ⟨b1, b2, b3⟩ := gr_len _ _ _ _ _ _ _ hy (by omega)
      obtain ⟨g1, g2⟩ := g9
      refine pg_At.imp ?_ (i4 D9 d9 k1 (c2 ++ [(o9, 0)]) Mq3 x9 hz hd (by omega) (by simp only [List.length_append, List.length_singleton]; omega) b2 g2.1 g2.2)
      rintro q9 M9 ⟨y1, y2⟩
      exact ⟨y1, y2.pre g1 (by simp only [List.length_append, List.length_singleton]; omega)⟩
  simp only [gr] at hx
  by_cases c1 : tk_tok tp k9 = (4, [43])
  · have ht : (tk_tok tp k9).1 ≠ 0 := by rw [c1]; simp
    have ti : tk_isS tp 43 (.ok k9) = true := decide_eq_true c1
    rw [if_pos c1] at hx
    obtain ⟨y9, hy⟩ := gr_ex hx
    rw [hy] at hx
    rw [ti] at hs1
    refine sX11_sums_5 (Q0 := fun v M' => v = b2i true ∧ M' = M) (Q1 := fun v M' => v = b2i true ∧ M' = M) (Q2 := fun M' => rm_gp a9 n9 tp (k9 + 1) cs.length M y9 M') (Q3 := fun _ => True) (Q4 := fun M' => rm_gp a9 n9 tp k9 cs.length M (gr_j (4, 0) y9) M') (Q5 := fun _ _ => True) (Q6 := fun _ _ => True) (Q7 := fun _ => True) (Q8 := fun _ => True) (Q9 := fun _ => True) hX hs1 ?_ ?_ ?_ ?_ ?_ ?_ ?_ ?_ ?_ ?_ ?_ ?_ ?_ ?_
    · rintro v9 Mq1 ⟨_, e8⟩ _; rw [e8]; exact hs1
    · rintro v9 Mq1 _ _ v8 Mq2 ⟨_, e8⟩; rw [e8]; exact rig y9 hy ht
    · rintro v9 Mq1 _ _ v8 Mq2 ⟨e8, _⟩ Mq3 _ q9; rw [e8] at q9; exact absurd q9 (by decide)
    · rintro v9 Mq1 _ _ v8 Mq2 ⟨e8, _⟩ Mq3 _ q9; rw [e8] at q9; exact absurd q9 (by decide)
    · rintro v9 Mq1 _ _ v8 Mq2 _ Mq3 g9 _; exact joi 4 y9 Mq3 hy ht g9
    · rintro v9 Mq1 _ _ v8 Mq2 _ Mq3 _ _ Mq4 g9; exact goo 4 y9 Mq4 hy ht hx g9
    · rintro v9 Mq1 ⟨e8, _⟩ q9; rw [e8] at q9; exact absurd q9 (by decide)
    · rintro v9 Mq1 ⟨e8, _⟩ q9; rw [e8] at q9; exact absurd q9 (by decide)
    · rintro v9 Mq1 ⟨e8, _⟩ q9; rw [e8] at q9; exact absurd q9 (by decide)
    · rintro v9 Mq1 ⟨e8, _⟩ q9; rw [e8] at q9; exact absurd q9 (by decide)
    · rintro v9 Mq1 ⟨e8, _⟩ q9; rw [e8] at q9; exact absurd q9 (by decide)
    · rintro v9 Mq1 ⟨e8, _⟩ q9; rw [e8] at q9; exact absurd q9 (by decide)
    · rintro v9 Mq1 ⟨e8, _⟩ q9; rw [e8] at q9; exact absurd q9 (by decide)
    · rintro v9 Mq1 ⟨e8, _⟩ q9; rw [e8] at q9; exact absurd q9 (by decide)
  · have ti : tk_isS tp 43 (.ok k9) = false := decide_eq_false c1
    rw [if_neg c1] at hx
    rw [ti] at hs1
    by_cases c2 : tk_tok tp k9 = (4, [45])
    · have ht : (tk_tok tp k9).1 ≠ 0 := by rw [c2]; simp
      have tj : tk_isS tp 45 (.ok k9) = true := decide_eq_true c2
      rw [if_pos c2] at hx
      obtain ⟨y9, hy⟩ := gr_ex hx
      rw [hy] at hx
      rw [tj] at hs2
      refine sX11_sums_5 (Q0 := fun v M' => v = b2i false ∧ M' = M) (Q1 := fun _ _ => True) (Q2 := fun _ => True) (Q3 := fun _ => True) (Q4 := fun _ => True) (Q5 := fun v M' => v = b2i true ∧ M' = M) (Q6 := fun v M' => v = b2i false ∧ M' = M) (Q7 := fun M' => rm_gp a9 n9 tp (k9 + 1) cs.length M y9 M') (Q8 := fun M' => rm_gp a9 n9 tp k9 cs.length M (gr_j (5, 0) y9) M') (Q9 := fun _ => True) hX hs1 ?_ ?_ ?_ ?_ ?_ ?_ ?_ ?_ ?_ ?_ ?_ ?_ ?_ ?_
      · rintro v9 Mq1 ⟨e8, _⟩ q9; exact absurd e8 q9
      · rintro v9 Mq1 ⟨e8, _⟩ q9; exact absurd e8 q9
      · rintro v9 Mq1 ⟨e8, _⟩ q9; exact absurd e8 q9
      · rintro v9 Mq1 ⟨e8, _⟩ q9; exact absurd e8 q9
      · rintro v9 Mq1 ⟨e8, _⟩ q9; exact absurd e8 q9
      · rintro v9 Mq1 ⟨e8, _⟩ q9; exact absurd e8 q9
      · rintro v9 Mq1 ⟨_, e8⟩ _; rw [e8]; exact hs2
      · rintro v9 Mq1 _ _ v8 Mq2 ⟨e8, _⟩ q9; rw [e8] at q9; exact absurd q9 (by decide)
      · rintro v9 Mq1 _ _ v8 Mq2 ⟨_, e8⟩ _; rw [e8]; exact hs1
      · rintro v9 Mq1 _ _ v8 Mq2 _ _ v7 Mq3 ⟨_, e8⟩; rw [e8]; exact rig y9 hy ht
      · rintro v9 Mq1 _ _ v8 Mq2 _ _ v7 Mq3 _ Mq4 g9 _; exact joi 5 y9 Mq4 hy ht g9
      · rintro v9 Mq1 _ _ v8 Mq2 _ _ v7 Mq3 _ Mq4 _ _ Mq5 g9; exact goo 5 y9 Mq5 hy ht hx g9
      · rintro v9 Mq1 _ _ v8 Mq2 _ _ v7 Mq3 ⟨e8, _⟩ Mq4 _ q9; exact absurd e8 q9
      · rintro v9 Mq1 _ _ v8 Mq2 _ _ v7 Mq3 ⟨e8, _⟩ Mq4 _ q9; exact absurd e8 q9
    · have tj : tk_isS tp 45 (.ok k9) = false := decide_eq_false c2
      rw [if_neg c2] at hx
      rw [← Option.some.inj hx]
      rw [tj] at hs2
      refine sX11_sums_5 (Q0 := fun v M' => v = b2i false ∧ M' = M) (Q1 := fun _ _ => True) (Q2 := fun _ => True) (Q3 := fun _ => True) (Q4 := fun _ => True) (Q5 := fun v M' => v = b2i false ∧ M' = M) (Q6 := fun _ _ => True) (Q7 := fun _ => True) (Q8 := fun _ => True) (Q9 := fun _ => True) hX hs1 ?_ ?_ ?_ ?_ ?_ ?_ ?_ ?_ ?_ ?_ ?_ ?_ ?_ ?_
      · rintro v9 Mq1 ⟨e8, _⟩ q9; exact absurd e8 q9
      · rintro v9 Mq1 ⟨e8, _⟩ q9; exact absurd e8 q9
      · rintro v9 Mq1 ⟨e8, _⟩ q9; exact absurd e8 q9
      · rintro v9 Mq1 ⟨e8, _⟩ q9; exact absurd e8 q9
      · rintro v9 Mq1 ⟨e8, _⟩ q9; exact absurd e8 q9
      · rintro v9 Mq1 ⟨e8, _⟩ q9; exact absurd e8 q9
      · rintro v9 Mq1 ⟨_, e8⟩ _; rw [e8]; exact hs2
      · rintro v9 Mq1 _ _ v8 Mq2 ⟨_, e8⟩ _; rw [e8]; exact ⟨rfl, rm_gf.rfl', hR, hU⟩
      · rintro v9 Mq1 _ _ v8 Mq2 ⟨e8, _⟩ q9; exact absurd e8 q9
      · rintro v9 Mq1 _ _ v8 Mq2 ⟨e8, _⟩ q9; exact absurd e8 q9
      · rintro v9 Mq1 _ _ v8 Mq2 ⟨e8, _⟩ q9; exact absurd e8 q9
      · rintro v9 Mq1 _ _ v8 Mq2 ⟨e8, _⟩ q9; exact absurd e8 q9
      · rintro v9 Mq1 _ _ v8 Mq2 ⟨e8, _⟩ q9; exact absurd e8 q9
      · rintro v9 Mq1 _ _ v8 Mq2 ⟨e8, _⟩ q9; exact absurd e8 q9
/-- a fault ends the rest -/
theorem rm_x7 {D8 d9 k9 l9 e9 : Nat} {M Mq1 : pg_M} (hX : pg_isX11 Λ) (hk : tk_ok tp) (g : rm_gp a9 n9 tp k9 l9 M (.error e9) Mq1) : pg_At S Λ YX11_all (D8 + 1) 5 [(0, .ref 207), (1, .int (nI d9))] [] Mq1 (fun q M' => q = none ∧ rm_gp a9 n9 tp k9 l9 M (.error e9) M') := by
  have hs1 := rm_isWord (S := S) (Λ := Λ) (d := D8) (w9 := 21) (by omega) hX hk g.2.1
  have hs2 := rm_isWord (S := S) (Λ := Λ) (d := D8) (w9 := 22) (by omega) hX hk g.2.1
  refine sX11_all_5 (Q0 := fun v M' => v = 0 ∧ M' = Mq1) (Q1 := fun _ _ => True) (Q2 := fun _ => True) (Q3 := fun _ => True) (Q4 := fun _ => True) (Q5 := fun v M' => v = 0 ∧ M' = Mq1) (Q6 := fun _ _ => True) (Q7 := fun _ => True) (Q8 := fun _ => True) (Q9 := fun _ => True) hX hs1 ?_ ?_ ?_ ?_ ?_ ?_ ?_ ?_ ?_ ?_ ?_ ?_ ?_ ?_
  · rintro v9 Mq2 ⟨e8, _⟩ q9; exact absurd e8 q9
  · rintro v9 Mq2 ⟨e8, _⟩ q9; exact absurd e8 q9
  · rintro v9 Mq2 ⟨e8, _⟩ q9; exact absurd e8 q9
  · rintro v9 Mq2 ⟨e8, _⟩ q9; exact absurd e8 q9
  · rintro v9 Mq2 ⟨e8, _⟩ q9; exact absurd e8 q9
  · rintro v9 Mq2 ⟨e8, _⟩ q9; exact absurd e8 q9
  · rintro v9 Mq2 ⟨_, e8⟩ _; rw [e8]; exact hs2
  · rintro v9 Mq2 _ _ v8 Mq3 ⟨_, e8⟩ _; rw [e8]; exact ⟨rfl, g⟩
  · rintro v9 Mq2 _ _ v8 Mq3 ⟨e8, _⟩ q9; exact absurd e8 q9
  · rintro v9 Mq2 _ _ v8 Mq3 ⟨e8, _⟩ q9; exact absurd e8 q9
  · rintro v9 Mq2 _ _ v8 Mq3 ⟨e8, _⟩ q9; exact absurd e8 q9
  · rintro v9 Mq2 _ _ v8 Mq3 ⟨e8, _⟩ q9; exact absurd e8 q9
  · rintro v9 Mq2 _ _ v8 Mq3 ⟨e8, _⟩ q9; exact absurd e8 q9
  · rintro v9 Mq2 _ _ v8 Mq3 ⟨e8, _⟩ q9; exact absurd e8 q9
theorem rm_s6 (hX : pg_isX11 Λ) (hk : tk_ok tp) (i1 : rm_G5 S Λ tp a9 n9 f9) (i4 : rm_G7 S Λ tp a9 n9 f9) : rm_G6 S Λ tp a9 n9 (f9 + 1) := by
  intro D9 d9 k9 cs M x9 hx hd hD hcs hkl hR hU
  obtain ⟨D8, rfl⟩ : ∃ D8, D9 = D8 + 1 := ⟨D9 - 1, by omega⟩
  simp only [gr] at hx
  obtain ⟨y9, hy⟩ := gr_ex hx
  rw [hy] at hx
  refine oX11_all (sX11_all_0 (Q0 := fun M' => rm_gp a9 n9 tp k9 cs.length M y9 M') hX (i1 D8 d9 k9 cs M y9 hy hd (by omega) hcs hkl hR hU) ?_)
  rintro Mq1 ⟨g1, g2⟩
  cases y9 with
  | error e9 =>
    rw [gr_b_er] at hx
    rw [← Option.some.inj hx]
    exact rm_x7 hX hk ⟨g1, g2⟩
  | ok p9 =>
    obtain ⟨k1, c1⟩ := p9
    rw [gr_b_ok] at hx
    obtain ⟨b1, b2, b3⟩ := gr_len _ _ _ _ _ _ _ hy hkl
    refine pg_At.imp ?_ (i4 D8 d9 k1 c1 Mq1 x9 hx hd (by omega) (by omega) b2 g2.1 g2.2)
    rintro q9 M9 ⟨y1, y2⟩
    exact ⟨y1, y2.pre g1 (by omega)⟩
theorem rm_s7 (hX : pg_isX11 Λ) (hk : tk_ok tp) (hn : n9 ≤ 1000) (i1 : rm_G5 S Λ tp a9 n9 f9) (i4 : rm_G7 S Λ tp a9 n9 f9) : rm_G7 S Λ tp a9 n9 (f9 + 1) := by
  intro D9 d9 k9 cs M x9 hx hd hD hcs hkl hR hU
  have hlen := hk.1
  have hs1 := rm_isWord (S := S) (Λ := Λ) (d := D9) (w9 := 21) (by omega) hX hk hR
  have hs2 := rm_isWord (S := S) (Λ := Λ) (d := D9) (w9 := 22) (by omega) hX hk hR
  have rig : ∀ y9, gr tp f9 5 d9 (k9 + 1) cs = some y9 → (tk_tok tp k9).1 ≠ 0 → pg_Ev S Λ YX11_test D9 [.ref 207, .int (nI d9)] (pg_si M 207 7 ((M.1 207 7) + 1)) (fun r M' => r = none ∧ rm_gp a9 n9 tp (k9 + 1) cs.length M y9 M') := fun y9 hy ht => by
    have kl : k9 < tp.length := tk_in ht
    obtain ⟨g1, g2⟩ := hR.adv ht
    refine pg_Ev.imp ?_ (i1 D9 d9 (k9 + 1) cs _ y9 hy hd (by omega) (by omega) (by omega) g1 (hU.rf g2))
    rintro q9 M9 ⟨y1, y2⟩
    exact ⟨y1, y2.pre g2.gf (by omega)⟩
  have joi : ∀ o9 y9 Mq2, gr tp f9 5 d9 (k9 + 1) cs = some y9 → (tk_tok tp k9).1 ≠ 0 → rm_gp a9 n9 tp (k9 + 1) cs.length M y9 Mq2 → pg_Ev S Λ YX11_emit D9 [.ref 207, .int (nI o9), .int 0] Mq2 (fun q M' => q = none ∧ rm_gp a9 n9 tp k9 cs.length M (gr_j (o9, 0) y9) M') := fun o9 y9 Mq2 hy ht g9 => by
    have kl : k9 < tp.length := tk_in ht
    refine rm_join (o9 := o9) hX hcs hn (fun k1 c2 e9 => ?_) g9
    rw [e9] at hy
    obtain ⟨b1, b2, b3⟩ := gr_len _ _ _ _ _ _ _ hy (by omega)
    omega
  have goo : ∀ o9 y9 Mq3, gr tp f9 5 d9 (k9 + 1) cs = some y9 → (tk_tok tp k9).1 ≠ 0 → gr_b (some y9) (fun k1 c1 => gr tp f9 7 d9 k1 (c1 ++ [(o9, 0)])) = some x9 → rm_gp a9 n9 tp k9 cs.length M (gr_j (o9, 0) y9) Mq3 → pg_At S Λ YX11_all (D9 + 1) 5 [(0, .ref 207), (1, .int (nI d9))] [] Mq3 (fun q M' => q = none ∧ rm_gp a9 n9 tp k9 cs.length M x9 M') := fun o9 y9 Mq3 hy ht hz g9 => by
    have kl : k9 < tp.length := tk_in ht
    cases y9 with
    | error e9 =>
      rw [gr_b_er] at hz
      rw [← Option.some.inj hz]
      exact rm_x7 hX hk g9
    | ok p9 =>
      obtain ⟨k1, c2⟩ := p9
      rw [gr_b_ok] at hz
      obtain ⟨b1, b2, b3⟩ := gr_len _ _ _ _ _ _ _ hy (by omega)
      obtain ⟨g1, g2⟩ := g9
      refine pg_At.imp ?_ (i4 D9 d9 k1 (c2 ++ [(o9, 0)]) Mq3 x9 hz hd (by omega) (by simp only [List.length_append, List.length_singleton]; omega) b2 g2.1 g2.2)
      rintro q9 M9 ⟨y1, y2⟩
      exact ⟨y1, y2.pre g1 (by simp only [List.length_append, List.length_singleton]; omega)⟩
  simp only [gr] at hx
  by_cases c1 : tk_wd (tk_tok tp k9) = some 21
  · have ht : (tk_tok tp k9).1 ≠ 0 := by rw [tk_wd_2 c1]; decide
    have ti : tk_isW tp 21 (.ok k9) = true := decide_eq_true c1
    rw [if_pos c1] at hx
    obtain ⟨y9, hy⟩ := gr_ex hx
    rw [hy] at hx
    rw [ti] at hs1
    refine sX11_all_5 (Q0 := fun v M' => v = b2i true ∧ M' = M) (Q1 := fun v M' => v = b2i true ∧ M' = M) (Q2 := fun M' => rm_gp a9 n9 tp (k9 + 1) cs.length M y9 M') (Q3 := fun _ => True) (Q4 := fun M' => rm_gp a9 n9 tp k9 cs.length M (gr_j (9, 0) y9) M') (Q5 := fun _ _ => True) (Q6 := fun _ _ => True) (Q7 := fun _ => True) (Q8 := fun _ => True) (Q9 := fun _ => True) hX hs1 ?_ ?_ ?_ ?_ ?_ ?_ ?_ ?_ ?_ ?_ ?_ ?_ ?_ ?_
    · rintro v9 Mq1 ⟨_, e8⟩ _; rw [e8]; exact hs1
    · rintro v9 Mq1 _ _ v8 Mq2 ⟨_, e8⟩; rw [e8]; exact rig y9 hy ht
    · rintro v9 Mq1 _ _ v8 Mq2 ⟨e8, _⟩ Mq3 _ q9; rw [e8] at q9; exact absurd q9 (by decide)
    · rintro v9 Mq1 _ _ v8 Mq2 ⟨e8, _⟩ Mq3 _ q9; rw [e8] at q9; exact absurd q9 (by decide)
    · rintro v9 Mq1 _ _ v8 Mq2 _ Mq3 g9 _; exact joi 9 y9 Mq3 hy ht g9
    · rintro v9 Mq1 _ _ v8 Mq2 _ Mq3 _ _ Mq4 g9; exact goo 9 y9 Mq4 hy ht hx g9
    · rintro v9 Mq1 ⟨e8, _⟩ q9; rw [e8] at q9; exact absurd q9 (by decide)
    · rintro v9 Mq1 ⟨e8, _⟩ q9; rw [e8] at q9; exact absurd q9 (by decide)
    · rintro v9 Mq1 ⟨e8, _⟩ q9; rw [e8] at q9; exact absurd q9 (by decide)
    · rintro v9 Mq1 ⟨e8, _⟩ q9; rw [e8] at q9; exact absurd q9 (by decide)
    · rintro v9 Mq1 ⟨e8, _⟩ q9; rw [e8] at q9; exact absurd q9 (by decide)
    · rintro v9 Mq1 ⟨e8, _⟩ q9; rw [e8] at q9; exact absurd q9 (by decide)
    · rintro v9 Mq1 ⟨e8, _⟩ q9; rw [e8] at q9; exact absurd q9 (by decide)
    · rintro v9 Mq1 ⟨e8, _⟩ q9; rw [e8] at q9; exact absurd q9 (by decide)
  · have ti : tk_isW tp 21 (.ok k9) = false := decide_eq_false c1
    rw [if_neg c1] at hx
    rw [ti] at hs1
    by_cases c2 : tk_wd (tk_tok tp k9) = some 22
    · have ht : (tk_tok tp k9).1 ≠ 0 := by rw [tk_wd_2 c2]; decide
      have tj : tk_isW tp 22 (.ok k9) = true := decide_eq_true c2
      rw [if_pos c2] at hx
      obtain ⟨y9, hy⟩ := gr_ex hx
      rw [hy] at hx
      rw [tj] at hs2
      refine sX11_all_5 (Q0 := fun v M' => v = b2i false ∧ M' = M) (Q1 := fun _ _ => True) (Q2 := fun _ => True) (Q3 := fun _ => True) (Q4 := fun _ => True) (Q5 := fun v M' => v = b2i true ∧ M' = M) (Q6 := fun v M' => v = b2i false ∧ M' = M) (Q7 := fun M' => rm_gp a9 n9 tp (k9 + 1) cs.length M y9 M') (Q8 := fun M' => rm_gp a9 n9 tp k9 cs.length M (gr_j (10, 0) y9) M') (Q9 := fun _ => True) hX hs1 ?_ ?_ ?_ ?_ ?_ ?_ ?_ ?_ ?_ ?_ ?_ ?_ ?_ ?_
      · rintro v9 Mq1 ⟨e8, _⟩ q9; exact absurd e8 q9
      · rintro v9 Mq1 ⟨e8, _⟩ q9; exact absurd e8 q9
      · rintro v9 Mq1 ⟨e8, _⟩ q9; exact absurd e8 q9
      · rintro v9 Mq1 ⟨e8, _⟩ q9; exact absurd e8 q9
      · rintro v9 Mq1 ⟨e8, _⟩ q9; exact absurd e8 q9
      · rintro v9 Mq1 ⟨e8, _⟩ q9; exact absurd e8 q9
      · rintro v9 Mq1 ⟨_, e8⟩ _; rw [e8]; exact hs2
      · rintro v9 Mq1 _ _ v8 Mq2 ⟨e8, _⟩ q9; rw [e8] at q9; exact absurd q9 (by decide)
      · rintro v9 Mq1 _ _ v8 Mq2 ⟨_, e8⟩ _; rw [e8]; exact hs1
      · rintro v9 Mq1 _ _ v8 Mq2 _ _ v7 Mq3 ⟨_, e8⟩; rw [e8]; exact rig y9 hy ht
      · rintro v9 Mq1 _ _ v8 Mq2 _ _ v7 Mq3 _ Mq4 g9 _; exact joi 10 y9 Mq4 hy ht g9
      · rintro v9 Mq1 _ _ v8 Mq2 _ _ v7 Mq3 _ Mq4 _ _ Mq5 g9; exact goo 10 y9 Mq5 hy ht hx g9
      · rintro v9 Mq1 _ _ v8 Mq2 _ _ v7 Mq3 ⟨e8, _⟩ Mq4 _ q9; exact absurd e8 q9
      · rintro v9 Mq1 _ _ v8 Mq2 _ _ v7 Mq3 ⟨e8, _⟩ Mq4 _ q9; exact absurd e8 q9
    · have tj : tk_isW tp 22 (.ok k9) = false := decide_eq_false c2
      rw [if_neg c2] at hx
      rw [← Option.some.inj hx]
      rw [tj] at hs2
      refine sX11_all_5 (Q0 := fun v M' => v = b2i false ∧ M' = M) (Q1 := fun _ _ => True) (Q2 := fun _ => True) (Q3 := fun _ => True) (Q4 := fun _ => True) (Q5 := fun v M' => v = b2i false ∧ M' = M) (Q6 := fun _ _ => True) (Q7 := fun _ => True) (Q8 := fun _ => True) (Q9 := fun _ => True) hX hs1 ?_ ?_ ?_ ?_ ?_ ?_ ?_ ?_ ?_ ?_ ?_ ?_ ?_ ?_
      · rintro v9 Mq1 ⟨e8, _⟩ q9; exact absurd e8 q9
      · rintro v9 Mq1 ⟨e8, _⟩ q9; exact absurd e8 q9
      · rintro v9 Mq1 ⟨e8, _⟩ q9; exact absurd e8 q9
      · rintro v9 Mq1 ⟨e8, _⟩ q9; exact absurd e8 q9
      · rintro v9 Mq1 ⟨e8, _⟩ q9; exact absurd e8 q9
      · rintro v9 Mq1 ⟨e8, _⟩ q9; exact absurd e8 q9
      · rintro v9 Mq1 ⟨_, e8⟩ _; rw [e8]; exact hs2
      · rintro v9 Mq1 _ _ v8 Mq2 ⟨_, e8⟩ _; rw [e8]; exact ⟨rfl, rm_gf.rfl', hR, hU⟩
      · rintro v9 Mq1 _ _ v8 Mq2 ⟨e8, _⟩ q9; exact absurd e8 q9
      · rintro v9 Mq1 _ _ v8 Mq2 ⟨e8, _⟩ q9; exact absurd e8 q9
      · rintro v9 Mq1 _ _ v8 Mq2 ⟨e8, _⟩ q9; exact absurd e8 q9
      · rintro v9 Mq1 _ _ v8 Mq2 ⟨e8, _⟩ q9; exact absurd e8 q9
      · rintro v9 Mq1 _ _ v8 Mq2 ⟨e8, _⟩ q9; exact absurd e8 q9
      · rintro v9 Mq1 _ _ v8 Mq2 ⟨e8, _⟩ q9; exact absurd e8 q9
theorem rm_s5 (hX : pg_isX11 Λ) (hk : tk_ok tp) (hn : n9 ≤ 1000) (i3 : rm_G3 S Λ tp a9 n9 f9) : rm_G5 S Λ tp a9 n9 (f9 + 1) := by
  intro D9 d9 k9 cs M x9 hx hd hD hcs hkl hR hU
  obtain ⟨D8, rfl⟩ : ∃ D8, D9 = D8 + 1 := ⟨D9 - 1, by omega⟩
  have hlen := hk.1
  simp only [gr] at hx
  obtain ⟨y9, hy⟩ := gr_ex hx
  rw [hy] at hx
  have fst := i3 D8 d9 k9 cs M y9 hy hd (by omega) hcs hkl hR hU
  cases y9 with
  | error e9 =>
    rw [gr_b_er] at hx
    rw [← Option.some.inj hx]
    refine oX11_test (sX11_test_0 (Q0 := fun M' => rm_gp a9 n9 tp k9 cs.length M (.error e9) M') (Q1 := fun v M' => v = 0 ∧ rm_gp a9 n9 tp k9 cs.length M (.error e9) M') (Q2 := fun v M' => v = 0 ∧ rm_gp a9 n9 tp k9 cs.length M (.error e9) M') (Q3 := fun _ => True) (Q4 := fun _ => True) (Q5 := fun _ => True) (Q6 := fun v M' => v = 0 ∧ rm_gp a9 n9 tp k9 cs.length M (.error e9) M') (Q7 := fun _ => True) (Q8 := fun _ => True) (Q9 := fun _ => True) hX fst ?_ ?_ ?_ ?_ ?_ ?_ ?_ ?_ ?_ ?_ ?_ ?_ ?_ ?_)
    · rintro Mq1 g9
      refine pg_Ev.imp ?_ (rm_isSign (S := S) (Λ := Λ) (d := D8) (c9 := 60) (by omega) hX hk g9.2.1)
      rintro q9 M9 ⟨v9, y1, y2, y3⟩
      exact ⟨v9, y1, y2, by rw [y3]; exact g9⟩
    · rintro Mq1 _ v9 Mq2 ⟨_, g9⟩
      have hs := rm_hasSign_e (S := S) (Λ := Λ) (d := D8 - 1) (c9 := 60) (by omega) hX hk g9.2.1
      rw [show D8 - 1 + 1 = D8 by omega] at hs
      refine pg_Ev.imp ?_ hs
      rintro q9 M9 ⟨v9, y1, y2, y3⟩
      exact ⟨v9, y1, y2, by rw [y3]; exact g9⟩
    · rintro Mq1 _ v9 Mq2 _ v8 Mq3 ⟨e8, _⟩ q9; exact absurd e8 q9
    · rintro Mq1 _ v9 Mq2 _ v8 Mq3 ⟨e8, _⟩ q9; exact absurd e8 q9
    · rintro Mq1 _ v9 Mq2 _ v8 Mq3 ⟨e8, _⟩ q9; exact absurd e8 q9
    · rintro Mq1 _ v9 Mq2 _ v8 Mq3 ⟨e8, _⟩ q9; exact absurd e8 q9
    · rintro Mq1 _ v9 Mq2 _ v8 Mq3 ⟨e8, _⟩ q9; exact absurd e8 q9
    · rintro Mq1 _ v9 Mq2 _ v8 Mq3 ⟨_, g9⟩ _
      have hs := rm_hasSign_e (S := S) (Λ := Λ) (d := D8 - 1) (c9 := 61) (by omega) hX hk g9.2.1
      rw [show D8 - 1 + 1 = D8 by omega] at hs
      refine pg_Ev.imp ?_ hs
      rintro q9 M9 ⟨v9, y1, y2, y3⟩
      exact ⟨v9, y1, y2, by rw [y3]; exact g9⟩
    · rintro Mq1 _ v9 Mq2 _ v8 Mq3 _ _ v7 Mq4 ⟨_, g9⟩ _; exact ⟨rfl, g9⟩
    · rintro Mq1 _ v9 Mq2 _ v8 Mq3 _ _ v7 Mq4 ⟨e8, _⟩ q9; exact absurd e8 q9
    · rintro Mq1 _ v9 Mq2 _ v8 Mq3 _ _ v7 Mq4 ⟨e8, _⟩ q9; exact absurd e8 q9
    · rintro Mq1 _ v9 Mq2 _ v8 Mq3 _ _ v7 Mq4 ⟨e8, _⟩ q9; exact absurd e8 q9
    · rintro Mq1 _ v9 Mq2 _ v8 Mq3 _ _ v7 Mq4 ⟨e8, _⟩ q9; exact absurd e8 q9
    · rintro Mq1 _ v9 Mq2 _ v8 Mq3 _ _ v7 Mq4 ⟨e8, _⟩ q9; exact absurd e8 q9
  | ok p9 =>
    obtain ⟨k1, c1⟩ := p9
    rw [gr_b_ok] at hx
    obtain ⟨b1, b2, b3⟩ := gr_len _ _ _ _ _ _ _ hy hkl
    have iss : ∀ Mq1, rm_gp a9 n9 tp k9 cs.length M (.ok (k1, c1)) Mq1 → pg_Ev S Λ YX11_isSign D8 [.ref 207, .int 60] Mq1 (fun r M' => ∃ v, r = some (.int v) ∧ (v = b2i (tk_isS tp 60 (.ok k1)) ∧ rm_gp a9 n9 tp k9 cs.length M (.ok (k1, c1)) M')) := by
      rintro Mq1 g9
      refine pg_Ev.imp ?_ (rm_isSign (S := S) (Λ := Λ) (d := D8) (c9 := 60) (by omega) hX hk g9.2.1)
      rintro q9 M9 ⟨v9, y1, y2, y3⟩
      exact ⟨v9, y1, y2, by rw [y3]; exact g9⟩
    have has : ∀ c9 Mq1, c9 < 128 → rm_gp a9 n9 tp k9 cs.length M (.ok (k1, c1)) Mq1 → pg_Ev S Λ YX11_hasSign D8 [.ref 207, .int (nI c9)] Mq1 (fun r M' => ∃ v, r = some (.int v) ∧ (v = b2i (tk_isS tp c9 (.ok k1)) ∧ rm_gp a9 n9 tp k9 cs.length M (.ok (if tk_isS tp c9 (.ok k1) = true then k1 + 1 else k1, c1)) M')) := by
      rintro c9 Mq1 hc ⟨g1, g2, g3⟩
      have hs := rm_hasSign (S := S) (Λ := Λ) (d := D8 - 1) (c9 := c9) hc hX hk g2
      rw [show D8 - 1 + 1 = D8 by omega] at hs
      refine pg_Ev.imp ?_ hs
      rintro q9 M9 ⟨v9, y1, y2, y3, y4⟩
      refine ⟨v9, y1, y2, g1.trans y4.gf, ?_, g3.rf y4⟩
      cases hq : tk_isS tp c9 (.ok k1) with
      | true => rw [hq] at y3; exact y3
      | false => rw [hq] at y3; exact y3
    have rig : ∀ (z9 : Except Nat (Nat × List (Nat × Int32))) (Mq2 : pg_M), gr tp f9 3 d9 (k1 + 1) c1 = some z9 → k1 < tp.length → rm_gp a9 n9 tp k9 cs.length M (.ok (k1 + 1, c1)) Mq2 → pg_Ev S Λ YX11_sums D8 [.ref 207, .int (nI d9)] Mq2 (fun q M' => q = none ∧ rm_gp a9 n9 tp (k1 + 1) c1.length M z9 M') := by
      rintro z9 Mq2 hz kl ⟨g1, g2, g3⟩
      refine pg_Ev.imp ?_ (i3 D8 d9 (k1 + 1) c1 Mq2 z9 hz hd (by omega) (by omega) (by omega) g2 g3)
      rintro q9 M9 ⟨y1, y2⟩
      exact ⟨y1, y2.pre g1 (by omega)⟩
    have joi : ∀ (o9 : Nat) (z9 : Except Nat (Nat × List (Nat × Int32))) (Mq3 : pg_M), gr tp f9 3 d9 (k1 + 1) c1 = some z9 → k1 < tp.length → rm_gp a9 n9 tp (k1 + 1) c1.length M z9 Mq3 → pg_Ev S Λ YX11_emit D8 [.ref 207, .int (nI o9), .int 0] Mq3 (fun q M' => q = none ∧ rm_gp a9 n9 tp k9 cs.length M (gr_j (o9, 0) z9) M') := by
      intro o9 z9 Mq3 hz kl g9
      refine pg_Ev.imp ?_ (rm_join (o9 := o9) (v9 := 0) (D8 := D8) hX (k9 := k1) (l9 := c1.length) (by omega) hn (fun k2 c2 e9 => ?_) g9)
      · rintro q9 M9 ⟨y1, y2⟩
        exact ⟨y1, y2.pre rm_gf.rfl' (by omega)⟩
      rw [e9] at hz
      obtain ⟨a1, a2, a3⟩ := gr_len _ _ _ _ _ _ _ hz (by omega)
      omega
    have ends : ∀ (e8 : Nat × Int32) (z9 : Except Nat (Nat × List (Nat × Int32))), gr_b (some z9) (fun k2 c2 => some (.ok (k2, c2 ++ [e8]))) = some x9 → gr_j e8 z9 = x9 := fun e8 z9 hz => by
      cases z9 with
      | error e9 => exact Option.some.inj hz
      | ok p9 => exact Option.some.inj hz
    by_cases c60 : tk_tok tp k1 = (4, [60])
    · have kl : k1 < tp.length := tk_in (by rw [c60]; simp)
      have ti : tk_isS tp 60 (.ok k1) = true := decide_eq_true c60
      rw [if_pos c60] at hx
      obtain ⟨z9, hz⟩ := gr_ex hx
      rw [hz] at hx
      have ee := ends (7, 0) z9 hx
      refine oX11_test (sX11_test_0 (Q0 := fun M' => rm_gp a9 n9 tp k9 cs.length M (.ok (k1, c1)) M') (Q1 := fun v M' => v = b2i (tk_isS tp 60 (.ok k1)) ∧ rm_gp a9 n9 tp k9 cs.length M (.ok (k1, c1)) M') (Q2 := fun v M' => v = b2i (tk_isS tp 60 (.ok k1)) ∧ rm_gp a9 n9 tp k9 cs.length M (.ok (if tk_isS tp 60 (.ok k1) = true then k1 + 1 else k1, c1)) M') (Q3 := fun M' => rm_gp a9 n9 tp (k1 + 1) c1.length M z9 M') (Q4 := fun _ => True) (Q5 := fun M' => rm_gp a9 n9 tp k9 cs.length M (gr_j (7, 0) z9) M') (Q6 := fun _ _ => True) (Q7 := fun _ => True) (Q8 := fun _ => True) (Q9 := fun _ => True) hX fst iss ?_ ?_ ?_ ?_ ?_ ?_ ?_ ?_ ?_ ?_ ?_ ?_ ?_)
      · rintro Mq1 _ v9 Mq2 ⟨_, g9⟩; exact has 60 Mq2 (by omega) g9
      · rintro Mq1 _ v9 Mq2 _ v8 Mq3 ⟨_, g9⟩ _; rw [ti] at g9; exact rig z9 Mq3 hz kl g9
      · rintro Mq1 _ v9 Mq2 ⟨e8, _⟩ v8 Mq3 _ _ Mq4 _ q9; rw [e8, ti] at q9; exact absurd q9 (by decide)
      · rintro Mq1 _ v9 Mq2 ⟨e8, _⟩ v8 Mq3 _ _ Mq4 _ q9; rw [e8, ti] at q9; exact absurd q9 (by decide)
      · rintro Mq1 _ v9 Mq2 _ v8 Mq3 _ _ Mq4 g9 _; exact joi 7 z9 Mq4 hz kl g9
      · rintro Mq1 _ v9 Mq2 _ v8 Mq3 _ _ Mq4 _ _ Mq5 g9; exact ⟨rfl, by rw [← ee]; exact g9⟩
      all_goals (rintro Mq1 _ v9 Mq2 _ v8 Mq3 ⟨e8, _⟩ q9; rw [e8, ti] at q9; exact absurd q9 (by decide))
    · rw [if_neg c60] at hx
      have ti : tk_isS tp 60 (.ok k1) = false := decide_eq_false c60
      by_cases c61 : tk_tok tp k1 = (4, [61])
      · have kl : k1 < tp.length := tk_in (by rw [c61]; simp)
        have tj : tk_isS tp 61 (.ok k1) = true := decide_eq_true c61
        rw [if_pos c61] at hx
        obtain ⟨z9, hz⟩ := gr_ex hx
        rw [hz] at hx
        have ee := ends (8, 0) z9 hx
        refine oX11_test (sX11_test_0 (Q0 := fun M' => rm_gp a9 n9 tp k9 cs.length M (.ok (k1, c1)) M') (Q1 := fun v M' => v = b2i (tk_isS tp 60 (.ok k1)) ∧ rm_gp a9 n9 tp k9 cs.length M (.ok (k1, c1)) M') (Q2 := fun v M' => v = b2i (tk_isS tp 60 (.ok k1)) ∧ rm_gp a9 n9 tp k9 cs.length M (.ok (if tk_isS tp 60 (.ok k1) = true then k1 + 1 else k1, c1)) M') (Q3 := fun _ => True) (Q4 := fun _ => True) (Q5 := fun _ => True) (Q6 := fun v M' => v = b2i (tk_isS tp 61 (.ok k1)) ∧ rm_gp a9 n9 tp k9 cs.length M (.ok (if tk_isS tp 61 (.ok k1) = true then k1 + 1 else k1, c1)) M') (Q7 := fun M' => rm_gp a9 n9 tp (k1 + 1) c1.length M z9 M') (Q8 := fun M' => rm_gp a9 n9 tp k9 cs.length M (gr_j (8, 0) z9) M') (Q9 := fun _ => True) hX fst iss ?_ ?_ ?_ ?_ ?_ ?_ ?_ ?_ ?_ ?_ ?_ ?_ ?_)
        · rintro Mq1 _ v9 Mq2 ⟨_, g9⟩; exact has 60 Mq2 (by omega) g9
        · rintro Mq1 _ v9 Mq2 _ v8 Mq3 ⟨e8, _⟩ q9; rw [e8, ti] at q9; exact absurd rfl q9
        · rintro Mq1 _ v9 Mq2 _ v8 Mq3 ⟨e8, _⟩ q9; rw [e8, ti] at q9; exact absurd rfl q9
        · rintro Mq1 _ v9 Mq2 _ v8 Mq3 ⟨e8, _⟩ q9; rw [e8, ti] at q9; exact absurd rfl q9
        · rintro Mq1 _ v9 Mq2 _ v8 Mq3 ⟨e8, _⟩ q9; rw [e8, ti] at q9; exact absurd rfl q9
        · rintro Mq1 _ v9 Mq2 _ v8 Mq3 ⟨e8, _⟩ q9; rw [e8, ti] at q9; exact absurd rfl q9
        · rintro Mq1 _ v9 Mq2 _ v8 Mq3 ⟨_, g9⟩ _; rw [ti] at g9; exact has 61 Mq3 (by omega) g9
        · rintro Mq1 _ v9 Mq2 _ v8 Mq3 _ _ v7 Mq4 ⟨e8, _⟩ q9; rw [e8, tj] at q9; exact absurd q9 (by decide)
        · rintro Mq1 _ v9 Mq2 _ v8 Mq3 _ _ v7 Mq4 ⟨_, g9⟩ _; rw [tj] at g9; exact rig z9 Mq4 hz kl g9
        · rintro Mq1 _ v9 Mq2 _ v8 Mq3 _ _ v7 Mq4 _ _ Mq5 g9 _; exact joi 8 z9 Mq5 hz kl g9
        · rintro Mq1 _ v9 Mq2 _ v8 Mq3 _ _ v7 Mq4 _ _ Mq5 _ _ Mq6 g9; exact ⟨rfl, by rw [← ee]; exact g9⟩
        · rintro Mq1 _ v9 Mq2 ⟨e8, _⟩ v8 Mq3 _ _ v7 Mq4 _ _ Mq5 _ q9; rw [e8, ti] at q9; exact absurd rfl q9
        · rintro Mq1 _ v9 Mq2 ⟨e8, _⟩ v8 Mq3 _ _ v7 Mq4 _ _ Mq5 _ q9; rw [e8, ti] at q9; exact absurd rfl q9
      · rw [if_neg c61] at hx
        have tj : tk_isS tp 61 (.ok k1) = false := decide_eq_false c61
        rw [← Option.some.inj hx]
        refine oX11_test (sX11_test_0 (Q0 := fun M' => rm_gp a9 n9 tp k9 cs.length M (.ok (k1, c1)) M') (Q1 := fun v M' => v = b2i (tk_isS tp 60 (.ok k1)) ∧ rm_gp a9 n9 tp k9 cs.length M (.ok (k1, c1)) M') (Q2 := fun v M' => v = b2i (tk_isS tp 60 (.ok k1)) ∧ rm_gp a9 n9 tp k9 cs.length M (.ok (if tk_isS tp 60 (.ok k1) = true then k1 + 1 else k1, c1)) M') (Q3 := fun _ => True) (Q4 := fun _ => True) (Q5 := fun _ => True) (Q6 := fun v M' => v = b2i (tk_isS tp 61 (.ok k1)) ∧ rm_gp a9 n9 tp k9 cs.length M (.ok (if tk_isS tp 61 (.ok k1) = true then k1 + 1 else k1, c1)) M') (Q7 := fun _ => True) (Q8 := fun _ => True) (Q9 := fun _ => True) hX fst iss ?_ ?_ ?_ ?_ ?_ ?_ ?_ ?_ ?_ ?_ ?_ ?_ ?_)
        · rintro Mq1 _ v9 Mq2 ⟨_, g9⟩; exact has 60 Mq2 (by omega) g9
        · rintro Mq1 _ v9 Mq2 _ v8 Mq3 ⟨e8, _⟩ q9; rw [e8, ti] at q9; exact absurd rfl q9
        · rintro Mq1 _ v9 Mq2 _ v8 Mq3 ⟨e8, _⟩ q9; rw [e8, ti] at q9; exact absurd rfl q9
        · rintro Mq1 _ v9 Mq2 _ v8 Mq3 ⟨e8, _⟩ q9; rw [e8, ti] at q9; exact absurd rfl q9
        · rintro Mq1 _ v9 Mq2 _ v8 Mq3 ⟨e8, _⟩ q9; rw [e8, ti] at q9; exact absurd rfl q9
        · rintro Mq1 _ v9 Mq2 _ v8 Mq3 ⟨e8, _⟩ q9; rw [e8, ti] at q9; exact absurd rfl q9
        · rintro Mq1 _ v9 Mq2 _ v8 Mq3 ⟨_, g9⟩ _; rw [ti] at g9; exact has 61 Mq3 (by omega) g9
        · rintro Mq1 _ v9 Mq2 _ v8 Mq3 _ _ v7 Mq4 ⟨_, g9⟩ _; rw [tj] at g9; exact ⟨rfl, g9⟩
        all_goals (rintro Mq1 _ v9 Mq2 _ v8 Mq3 _ _ v7 Mq4 ⟨e8, _⟩ q9; rw [e8, tj] at q9; exact absurd rfl q9)
end PGR
