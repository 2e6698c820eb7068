/-! THE GRAMMAR of laws: the class -/
def gr_c (e9 : Nat × Int32) : Int32 := if e9.1 = 1 then e9.2 else if e9.1 = 2 then -1 - e9.2 else if e9.1 = 3 then -4 else if e9.1 = 4 then -9 else if e9.1 = 5 then -10 else if e9.1 = 6 then -11 else if e9.1 = 7 then -7 else if e9.1 = 8 then -8 else if e9.1 = 9 then -5 else -6
theorem rc_U.mk9 {M : pg_M} {r9 : Nat} {cs : List (Nat × Int32)} : rc_U M r9 cs ↔ (M.1 r9 2 = nI cs.length ∧ cs.length ≤ 1000 ∧ ∀ (j : Nat) (e : Nat × Int32), cs[j]? = some e → M.1 (r9 + 1) j = gr_c e) := Iff.rfl
/-- what the reading of a law changes -/
def rc_gf (r9 : Nat) (M M' : pg_M) : Prop := pg_fr [1, r9, r9 + 1] M M' ∧ ∀ j9, j9 ≠ 2 → j9 ≠ 3 → j9 ≠ 4 → j9 ≠ 5 → j9 ≠ 7 → j9 ≠ 9 → M'.1 1 j9 = M.1 1 j9
theorem rc_gf.rfl' {r9 : Nat} {M : pg_M} : rc_gf r9 M M := ⟨pg_fr.rfl', fun _ _ _ _ _ _ _ => rfl⟩
theorem rc_gf.trans {r9 : Nat} {M Mq1 Mq2 : pg_M} (g1 : rc_gf r9 M Mq1) (g2 : rc_gf r9 Mq1 Mq2) : rc_gf r9 M Mq2 := ⟨g1.1.trans g2.1, fun j9 a1 a2 a3 a4 a5 a6 => (g2.2 j9 a1 a2 a3 a4 a5 a6).trans (g1.2 j9 a1 a2 a3 a4 a5 a6)⟩
theorem rc_rf.gf {r9 : Nat} {M Mq1 : pg_M} (g1 : rc_rf M Mq1) : rc_gf r9 M Mq1 := ⟨g1.1.mono (fun b9 hb9 => by simp at hb9 ⊢; omega), g1.2⟩
theorem rc_gf.ad {r9 : Nat} {M Mq1 : pg_M} (hr : 3 ≤ r9) (g1 : pg_fr [r9, r9 + 1] M Mq1) : rc_gf r9 M Mq1 := ⟨g1.mono (fun b9 hb9 => by simp at hb9 ⊢; omega), fun j9 _ _ _ _ _ _ => by rw [g1.1 1 (by simp; omega)]⟩
theorem rc_R.fr9 {M M' : pg_M} {tp : List Nat} {z9 : tk_st} (hR : rc_R M tp z9) (e1 : M'.1 1 = M.1 1) (e2 : M'.1 2 = M.1 2) (e3 : M'.2.1 1 = M.2.1 1) : rc_R M' tp z9 := by
  unfold rc_R rc_T rc_tok at hR ⊢
  rw [e1, e2, e3]
  exact hR
theorem rc_R.ad {r9 : Nat} {M Mq1 : pg_M} {tp : List Nat} {z9 : tk_st} (hr : 3 ≤ r9) (hR : rc_R M tp z9) (g1 : pg_fr [r9, r9 + 1] M Mq1) : rc_R Mq1 tp z9 := hR.fr9 (g1.1 1 (by simp; omega)) (g1.1 2 (by simp; omega)) (g1.2.1 1 (by simp; omega))
theorem rc_U.rf {r9 : Nat} {M Mq1 : pg_M} {cs : List (Nat × Int32)} (hr : 3 ≤ r9) (hU : rc_U M r9 cs) (g1 : rc_rf M Mq1) : rc_U Mq1 r9 cs := hU.fr (g1.1.1 r9 (by simp; omega)) (g1.1.1 (r9 + 1) (by simp; omega))
section PGR
variable {S : pg_S} {Λ : pg_L} {d r9 : Nat} {M : pg_M} {tp : List Nat} {z9 : tk_st} {cs : List (Nat × Int32)}
theorem rc_radd {e9 : Nat × Int32} {v : Int32} (hv : v = gr_c e9) (hlt : cs.length < 1000) (hr : 3 ≤ r9) (h8 : pg_isX8 Λ r9) (hU : rc_U M r9 cs) : pg_Ev S Λ YX8_add d [.ref r9, .int v] M (fun q M' => q = none ∧ (rc_U M' r9 (cs ++ [e9]) ∧ pg_fr [r9, r9 + 1] M M')) := by
  obtain ⟨u1, u2, u3⟩ := rc_U.mk9.mp hU
  have cq : ¬ (Int32.ofNat 1000) ≤ M.1 r9 2 := by rw [u1]; exact nI_ge hlt (by decide)
  refine oX8_add (sX8_add_0 h8 (fun c => absurd c cq) (fun _ => by rw [u1]; exact vp_in_nI hlt (by decide)) ?_)
  intro _ Nq1 eq1
  have ecl : (nI cs.length).toNatClampNeg = cs.length := nI_clamp (by omega)
  rw [u1, ecl, pg_si_ne (show r9 ≠ r9 + 1 by omega), u1, nI_1] at eq1
  rw [eq1]
  refine ⟨rfl, rc_U.mk9.mpr ⟨?_, by simp; omega, fun j9 f9 hj => ?_⟩, (pg_fr.si (by simp)).trans (pg_fr.si (by simp))⟩
  · rw [pg_si_at, pk_us]; simp
  · rw [pg_si_ne (by omega), pg_si_at]
    by_cases z9 : j9 = cs.length
    · subst z9
      rw [pk_us, hv]
      rw [List.getElem?_append_right (Nat.le_refl _), Nat.sub_self] at hj
      rw [← Option.some.inj hj]
    · have hjl : j9 < cs.length := by
        have := (List.getElem?_eq_some_iff.mp hj).1
        simp at this; omega
      rw [pk_un z9]
      rw [List.getElem?_append_left hjl] at hj
      exact u3 j9 f9 hj
theorem rc_radd_any {e9 : Nat × Int32} {v : Int32} (hv : v = gr_c e9) (hr : 3 ≤ r9) (h8 : pg_isX8 Λ r9) (hU : ∃ cs, rc_U M r9 cs) : pg_Ev S Λ YX8_add d [.ref r9, .int v] M (fun q M' => q = none ∧ ((∃ cs, rc_U M' r9 cs) ∧ pg_fr [r9, r9 + 1] M M')) := by
  obtain ⟨cs, hU⟩ := hU
  by_cases hlt : cs.length < 1000
  · refine pg_Ev.imp ?_ (rc_radd hv hlt hr h8 hU)
    rintro q9 M9 ⟨g1, g2, g3⟩
    exact ⟨g1, ⟨_, g2⟩, g3⟩
  · obtain ⟨u1, u2, u3⟩ := rc_U.mk9.mp hU
    have cq : (Int32.ofNat 1000) ≤ M.1 r9 2 := by rw [u1]; exact nI_le (by omega) (by omega)
    exact oX8_add (sX8_add_0 h8 (fun _ => ⟨rfl, ⟨cs, hU⟩, pg_fr.rfl'⟩) (fun c => absurd cq c) (fun c => absurd cq c))
/-- what a reading of the grammar ends in -/
def rc_gp (r9 : Nat) (tp : List Nat) (M : pg_M) (x9 : Except Nat (Nat × List (Nat × Int32))) (M' : pg_M) : Prop := rc_gf r9 M M' ∧ match x9 with
  | .ok y9 => rc_R M' tp (.ok y9.1) ∧ rc_U M' r9 y9.2
  | .error e9 => rc_R M' tp (.error e9) ∧ ∃ cs, rc_U M' r9 cs
theorem rc_gp.pre {Mq1 M' : pg_M} {x9 : Except Nat (Nat × List (Nat × Int32))} (g1 : rc_gf r9 M Mq1) (g2 : rc_gp r9 tp Mq1 x9 M') : rc_gp r9 tp M x9 M' := ⟨g1.trans g2.1, g2.2⟩
theorem rc_R.f0 {k9 : Nat} (hR : rc_R M tp (.ok k9)) : M.1 1 9 = 0 := hR.2.1
theorem rc_R.f1 {e9 : Nat} (hR : rc_R M tp (.error e9)) : ¬ M.1 1 9 = 0 := by
  obtain ⟨_, g1, g2, g3⟩ := hR
  rw [g1]; exact nI_ne0 g2 (by omega)
theorem rc_R.tk {k9 : Nat} (hR : rc_R M tp (.ok k9)) : rc_tok M (tk_tok tp k9) := hR.2.2.1
theorem rc_expect {c9 : Nat} (hc : 4 ≤ c9) (hc2 : c9 < 2 ^ 31) (hX : pg_isX7 Λ) (hk : tk_ok tp) (hR : rc_R M tp z9) : pg_Ev S Λ YX7_expectSign (d + 4) [.ref 1, .int (nI c9)] M (fun q M' => q = none ∧ (rc_R M' tp (match z9 with
    | .error f9 => .error f9
    | .ok k9 => if tk_tok tp k9 = (4, [c9]) then .ok (k9 + 1) else .error (1 + 16 * tk_place tp k9)) ∧ rc_rf M M')) := by
  cases z9 with
  | error f9 =>
    have nx := rc_rnext (S := S) (d := d) hX hk hR
    refine oX7_expectSign (sX7_expectSign_0 (Q0 := fun M' => rc_R M' tp (.error f9) ∧ rc_rf M M') (Q1 := fun M' => rc_R M' tp (.error f9) ∧ rc_rf M M') (Q2 := fun M' => rc_R M' tp (.error f9) ∧ rc_rf M M') hX (fun _ => nx) (fun _ Mq1 g9 => ⟨rfl, g9⟩) (fun _ => rc_rfail (n9 := 1) (by omega) (by omega) hX hk hR) ?_ (fun _ Mq1 _ Mq2 g9 => ⟨rfl, g9⟩))
    rintro _ Mq1 ⟨g1, g2⟩
    refine pg_Ev.imp ?_ (rc_rnext (S := S) (d := d) hX hk g1)
    rintro q9 M9 ⟨y1, y2, y3⟩
    exact ⟨y1, y2, g2.trans y3⟩
  | ok k9 =>
    have i9 := hR.tk.s4 hk hc hc2
    refine oX7_expectSign (sX7_expectSign_0 (Q0 := fun M' => rc_R M' tp (.ok (k9 + 1)) ∧ rc_rf M M') (Q1 := fun M' => rc_R M' tp (.error (1 + 16 * tk_place tp k9)) ∧ rc_rf M M') (Q2 := fun M' => rc_R M' tp (.error (1 + 16 * tk_place tp k9)) ∧ rc_rf M M') hX (fun _ => rc_rnext hX hk hR) ?_ (fun _ => rc_rfail (n9 := 1) (by omega) (by omega) hX hk hR) ?_ ?_)
    · rintro q9 Mq1 g9
      rw [i9] at q9
      refine ⟨rfl, ?_, g9.2⟩
      show rc_R Mq1 tp (if tk_tok tp k9 = (4, [c9]) then Except.ok (k9 + 1) else Except.error (1 + 16 * tk_place tp k9))
      rw [if_pos q9]; exact g9.1
    · rintro _ Mq1 ⟨g1, g2⟩
      refine pg_Ev.imp ?_ (rc_rnext (S := S) (d := d) hX hk g1)
      rintro q9 M9 ⟨y1, y2, y3⟩
      exact ⟨y1, y2, g2.trans y3⟩
    · rintro q9 Mq1 _ Mq2 g9
      rw [i9] at q9
      refine ⟨rfl, ?_, g9.2⟩
      show rc_R Mq2 tp (if tk_tok tp k9 = (4, [c9]) then Except.ok (k9 + 1) else Except.error (1 + 16 * tk_place tp k9))
      rw [if_neg q9]; exact g9.1
end PGR
/-- no more code than tokens; and within the tape -/
theorem gr_len {tp : List Nat} : ∀ f9 tg d9 k9 cs k1 c1, gr tp f9 tg d9 k9 cs = some (.ok (k1, c1)) → k9 ≤ tp.length → k9 ≤ k1 ∧ k1 ≤ tp.length ∧ c1.length + k9 ≤ cs.length + k1 := by
  intro f9
  induction f9 with
  | zero => intro tg d9 k9 cs k1 c1 h9; unfold gr at h9; cases h9
  | succ f9 ih9 =>
    intro tg d9 k9 cs k1 c1 h9 hk
    have inn : ∀ t9 : Nat × List Nat, t9.1 ≠ 0 → tk_tok tp k9 = t9 → k9 + 1 ≤ tp.length := fun t9 z9 y9 => tk_in (by rw [y9]; exact z9)
    have inw : ∀ j9, tk_wd (tk_tok tp k9) = some j9 → k9 + 1 ≤ tp.length := fun j9 z9 => tk_in (by rw [tk_wd_2 z9]; decide)
    have bnd : ∀ {tg1 d1 k0 : Nat} {c0 : List (Nat × Int32)} {F9 : Nat → List (Nat × Int32) → gr_R}, gr_b (gr tp f9 tg1 d1 k0 c0) F9 = some (.ok (k1, c1)) → k0 ≤ tp.length → ∃ k2 c2, (k0 ≤ k2 ∧ k2 ≤ tp.length ∧ c2.length + k0 ≤ c0.length + k2) ∧ F9 k2 c2 = some (.ok (k1, c1)) := fun {tg1 d1 k0 c0 F9} z9 y9 => by
      cases hq : gr tp f9 tg1 d1 k0 c0 with
      | none => rw [hq] at z9; cases z9
      | some w9 =>
        cases w9 with
        | error e9 => rw [hq] at z9; cases z9
        | ok p9 =>
          obtain ⟨k2, c2⟩ := p9
          rw [hq] at z9
          exact ⟨k2, c2, ih9 _ _ _ _ _ _ hq y9, z9⟩
    have okk : ∀ {k2 : Nat} {c2 : List (Nat × Int32)}, (some (.ok (k2, c2)) : gr_R) = some (.ok (k1, c1)) → k2 = k1 ∧ c2 = c1 := fun z9 => by
      injection z9 with z8
      injection z8 with z7
      injection z7 with z6 z5
      exact ⟨z6, z5⟩
    match tg, h9 with
    | 0, h9 =>
      simp only [gr] at h9
      split at h9
      · rename_i z9
        have := inn _ (by simp) z9
        split at h9
        · cases h9
        · obtain ⟨k2, c2, ⟨a1, a2, a3⟩, h8⟩ := bnd h9 this
          split at h8
          · rename_i y9
            obtain ⟨rfl, rfl⟩ := okk h8
            have : k2 + 1 ≤ tp.length := tk_in (by rw [y9]; simp)
            omega
          · cases h8
      · split at h9
        · rename_i z9
          have := inw _ z9
          split at h9
          · cases h9
          · obtain ⟨k2, c2, ⟨a1, a2, a3⟩, h8⟩ := bnd h9 this
            obtain ⟨rfl, rfl⟩ := okk h8
            simp only [List.length_append, List.length_singleton]
            omega
        · split at h9
          · rename_i z9
            have : k9 + 1 ≤ tp.length := tk_in (by rw [z9]; decide)
            split at h9
            · cases h9
            · obtain ⟨rfl, rfl⟩ := okk h9
              simp only [List.length_append, List.length_singleton]
              omega
          · cases hw : tk_wd (tk_tok tp k9) with
            | none => rw [hw] at h9; cases h9
            | some j9 =>
              have := inw _ hw
              rw [hw] at h9
              simp only at h9
              split at h9
              · split at h9
                · cases h9
                · obtain ⟨rfl, rfl⟩ := okk h9
                  simp only [List.length_append, List.length_singleton]
                  omega
              · cases h9
    | 1, h9 =>
      simp only [gr] at h9
      obtain ⟨k2, c2, ⟨a1, a2, a3⟩, h8⟩ := bnd h9 hk
      have := ih9 _ _ _ _ _ _ h8 a2
      omega
    | 2, h9 =>
      simp only [gr] at h9
      split at h9
      · rename_i z9
        obtain ⟨k2, c2, ⟨a1, a2, a3⟩, h8⟩ := bnd h9 (inn _ (by simp) z9)
        have := ih9 _ _ _ _ _ _ h8 a2
        simp only [List.length_append, List.length_singleton] at this
        omega
      · obtain ⟨rfl, rfl⟩ := okk h9
        omega
    | 3, h9 =>
      simp only [gr] at h9
      obtain ⟨k2, c2, ⟨a1, a2, a3⟩, h8⟩ := bnd h9 hk
      have := ih9 _ _ _ _ _ _ h8 a2
      omega
    | 4, h9 =>
      simp only [gr] at h9
      split at h9
      · rename_i z9
        obtain ⟨k2, c2, ⟨a1, a2, a3⟩, h8⟩ := bnd h9 (inn _ (by simp) z9)
        have := ih9 _ _ _ _ _ _ h8 a2
        simp only [List.length_append, List.length_singleton] at this
        omega
      · split at h9
        · rename_i z9
          obtain ⟨k2, c2, ⟨a1, a2, a3⟩, h8⟩ := bnd h9 (inn _ (by simp) z9)
          have := ih9 _ _ _ _ _ _ h8 a2
          simp only [List.length_append, List.length_singleton] at this
          omega
        · obtain ⟨rfl, rfl⟩ := okk h9
          omega
    | 5, h9 =>
      simp only [gr] at h9
      obtain ⟨k2, c2, ⟨a1, a2, a3⟩, h8⟩ := bnd h9 hk
      split at h8
      · rename_i z9
        have : k2 + 1 ≤ tp.length := tk_in (by rw [z9]; simp)
        obtain ⟨k3, c3, ⟨b1, b2, b3⟩, h7⟩ := bnd h8 this
        obtain ⟨rfl, rfl⟩ := okk h7
        simp only [List.length_append, List.length_singleton]
        omega
      · split at h8
        · rename_i z9
          have : k2 + 1 ≤ tp.length := tk_in (by rw [z9]; simp)
          obtain ⟨k3, c3, ⟨b1, b2, b3⟩, h7⟩ := bnd h8 this
          obtain ⟨rfl, rfl⟩ := okk h7
          simp only [List.length_append, List.length_singleton]
          omega
        · obtain ⟨rfl, rfl⟩ := okk h8
          omega
    | 6, h9 =>
      simp only [gr] at h9
      obtain ⟨k2, c2, ⟨a1, a2, a3⟩, h8⟩ := bnd h9 hk
      have := ih9 _ _ _ _ _ _ h8 a2
      omega
    | tg + 7, h9 =>
      simp only [gr] at h9
      split at h9
      · rename_i z9
        obtain ⟨k2, c2, ⟨a1, a2, a3⟩, h8⟩ := bnd h9 (inw _ z9)
        have := ih9 _ _ _ _ _ _ h8 a2
        simp only [List.length_append, List.length_singleton] at this
        omega
      · split at h9
        · rename_i z9
          obtain ⟨k2, c2, ⟨a1, a2, a3⟩, h8⟩ := bnd h9 (inw _ z9)
          have := ih9 _ _ _ _ _ _ h8 a2
          simp only [List.length_append, List.length_singleton] at this
          omega
        · obtain ⟨rfl, rfl⟩ := okk h9
          omega
