/-! THE GRAMMAR of laws: fuel enough -/
def gr_rk (tg : Nat) : Nat := if tg = 0 then 0 else if tg = 2 then 1 else if tg = 1 then 2 else if tg = 4 then 3 else if tg = 3 then 4 else if tg = 5 then 5 else if tg = 6 then 7 else 6
theorem gr_fuel {tp : List Nat} : ∀ f9 tg d9 k9 cs, k9 ≤ tp.length → 8 * (tp.length - k9) + gr_rk tg < f9 → ∃ x9, gr tp f9 tg d9 k9 cs = some x9 := by
  intro f9
  induction f9 with
  | zero => intro tg d9 k9 cs _ h9; omega
  | succ f9 ih9 =>
    intro tg d9 k9 cs hk h9
    have inn : ∀ t9 : Nat × List Nat, t9.1 ≠ 0 → tk_tok tp k9 = t9 → k9 + 1 ≤ tp.length := fun t9 z9 y9 => tk_in (by rw [y9]; exact z9)
    have inw : ∀ j9, tk_wd (tk_tok tp k9) = some j9 → k9 + 1 ≤ tp.length := fun j9 z9 => tk_in (by rw [tk_wd_2 z9]; decide)
    have bnd : ∀ {tg1 d1 k0 : Nat} {c0 : List (Nat × Int32)} {F9 : Nat → List (Nat × Int32) → gr_R}, k0 ≤ tp.length → 8 * (tp.length - k0) + gr_rk tg1 < f9 → (∀ k2 c2, k0 ≤ k2 → k2 ≤ tp.length → ∃ x9, F9 k2 c2 = some x9) → ∃ x9, gr_b (gr tp f9 tg1 d1 k0 c0) F9 = some x9 := fun {tg1 d1 k0 c0 F9} a1 a2 a3 => by
      obtain ⟨y9, hy⟩ := ih9 tg1 d1 k0 c0 a1 a2
      rw [hy]
      cases y9 with
      | error e9 => exact ⟨_, rfl⟩
      | ok p9 =>
        obtain ⟨k2, c2⟩ := p9
        obtain ⟨b1, b2, _⟩ := gr_len _ _ _ _ _ _ _ hy a1
        exact a3 k2 c2 b1 b2
    have done9 : ∀ x9 : Except Nat (Nat × List (Nat × Int32)), ∃ y9, (some x9 : gr_R) = some y9 := fun x9 => ⟨x9, rfl⟩
    match tg, h9 with
    | 0, h9 =>
      have r0 : gr_rk 0 = 0 := rfl
      have r6 : gr_rk 6 = 7 := rfl
      simp only [gr]
      split
      · rename_i z9
        have := inn _ (by simp) z9
        split
        · exact done9 _
        · refine bnd this (by omega) (fun k2 c2 _ _ => ?_)
          split
          · exact done9 _
          · exact done9 _
      · split
        · rename_i z9
          have := inw _ z9
          split
          · exact done9 _
          · exact bnd this (by omega) (fun k2 c2 _ _ => done9 _)
        · split
          · split
            · exact done9 _
            · exact done9 _
          · split
            · split
              · split
                · exact done9 _
                · exact done9 _
              · exact done9 _
            · exact done9 _
    | 1, h9 =>
      have r0 : gr_rk 0 = 0 := rfl
      have r1 : gr_rk 1 = 2 := rfl
      have r2 : gr_rk 2 = 1 := rfl
      simp only [gr]
      exact bnd hk (by omega) (fun k2 c2 a1 a2 => ih9 _ _ _ _ a2 (by omega))
    | 2, h9 =>
      have r0 : gr_rk 0 = 0 := rfl
      have r2 : gr_rk 2 = 1 := rfl
      simp only [gr]
      split
      · rename_i z9
        have := inn _ (by simp) z9
        exact bnd this (by omega) (fun k2 c2 a1 a2 => ih9 _ _ _ _ a2 (by omega))
      · exact done9 _
    | 3, h9 =>
      have r1 : gr_rk 1 = 2 := rfl
      have r3 : gr_rk 3 = 4 := rfl
      have r4 : gr_rk 4 = 3 := rfl
      simp only [gr]
      exact bnd hk (by omega) (fun k2 c2 a1 a2 => ih9 _ _ _ _ a2 (by omega))
    | 4, h9 =>
      have r1 : gr_rk 1 = 2 := rfl
      have r4 : gr_rk 4 = 3 := rfl
      simp only [gr]
      split
      · rename_i z9
        have := inn _ (by simp) z9
        exact bnd this (by omega) (fun k2 c2 a1 a2 => ih9 _ _ _ _ a2 (by omega))
      · split
        · rename_i z9
          have := inn _ (by simp) z9
          exact bnd this (by omega) (fun k2 c2 a1 a2 => ih9 _ _ _ _ a2 (by omega))
        · exact done9 _
    | 5, h9 =>
      have r3 : gr_rk 3 = 4 := rfl
      have r5 : gr_rk 5 = 5 := rfl
      simp only [gr]
      refine bnd hk (by omega) (fun k2 c2 a1 a2 => ?_)
      split
      · rename_i z9
        have : k2 + 1 ≤ tp.length := tk_in (by rw [z9]; simp)
        exact bnd this (by omega) (fun k3 c3 _ _ => done9 _)
      · split
        · rename_i z9
          have : k2 + 1 ≤ tp.length := tk_in (by rw [z9]; simp)
          exact bnd this (by omega) (fun k3 c3 _ _ => done9 _)
        · exact done9 _
    | 6, h9 =>
      have r5 : gr_rk 5 = 5 := rfl
      have r6 : gr_rk 6 = 7 := rfl
      have r7 : gr_rk 7 = 6 := rfl
      simp only [gr]
      exact bnd hk (by omega) (fun k2 c2 a1 a2 => ih9 _ _ _ _ a2 (by omega))
    | tg + 7, h9 =>
      have r5 : gr_rk 5 = 5 := rfl
      have r7 : gr_rk 7 = 6 := rfl
      have r8 : gr_rk (tg + 7) = 6 := by unfold gr_rk; rw [if_neg (by omega), if_neg (by omega), if_neg (by omega), if_neg (by omega), if_neg (by omega), if_neg (by omega), if_neg (by omega)]
      simp only [gr]
      split
      · rename_i z9
        have := inw _ z9
        exact bnd this (by omega) (fun k2 c2 a1 a2 => ih9 _ _ _ _ a2 (by omega))
      · split
        · rename_i z9
          have := inw _ z9
          exact bnd this (by omega) (fun k2 c2 a1 a2 => ih9 _ _ _ _ a2 (by omega))
        · exact done9 _
/-- the tests of a law, read whole -/
def gr_law (tp : List Nat) (k9 : Nat) : Except Nat (Nat × List (Nat × Int32)) := (gr tp (8 * tp.length + 8) 6 0 k9 []).getD (.error 0)
theorem gr_law_eq {tp : List Nat} {k9 : Nat} (hk : k9 ≤ tp.length) : gr tp (8 * tp.length + 8) 6 0 k9 [] = some (gr_law tp k9) := by
  obtain ⟨x9, hx⟩ := gr_fuel (tp := tp) (8 * tp.length + 8) 6 0 k9 [] hk (by have : gr_rk 6 = 7 := rfl; omega)
  unfold gr_law
  rw [hx]; rfl
