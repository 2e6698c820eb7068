/-! THE GRAMMAR of laws: its code stays within the stack -/
def gr_of (tg : Nat) : Nat := if tg = 0 then 0 else if tg = 1 then 1 else if tg = 2 then 1 else if tg = 3 then 2 else if tg = 4 then 2 else if tg = 5 then 3 else 4
def gr_in (tg n9 : Nat) : Nat := if tg = 2 ∨ tg = 4 ∨ 7 ≤ tg then n9 + 1 else n9
theorem tk_num_lt {tp : List Nat} {k9 : Nat} (h3 : (tk_tok tp k9).1 = 3) : (tk_tok tp k9).2.getD 0 0 ≤ 9999 := by
  unfold tk_tok tk_t at h3 ⊢
  cases hc : tp[tk_p tp (tk_i tp k9)]? with
  | none => rw [hc] at h3; exact absurd h3 (by simp)
  | some c9 =>
    rw [hc] at h3
    simp only at h3 ⊢
    split at h3
    · split at h3 <;> exact absurd h3 (by simp)
    · rename_i y1
      rw [if_neg y1]
      by_cases y2 : tk_D c9 = true
      · rw [if_pos y2] at h3 ⊢
        by_cases y3 : (tk_ds tp (tk_i tp k9)).length ≤ 4
        · rw [if_pos y3]
          show sp_w 10 ((tk_ds tp (tk_i tp k9)).map (· - 48)) ≤ 9999
          have b1 := tk_w_lt (B9 := 10) (by decide) _ ((tk_ds tp (tk_i tp k9)).map (· - 48)) rfl (fun x9 hx => by
            simp only [List.mem_map] at hx
            obtain ⟨a9, ha, rfl⟩ := hx
            obtain ⟨j9, hj, hja⟩ := List.getElem_of_mem ha
            obtain ⟨e9, _, g2, g3⟩ := tk_run_in (p := tk_D) (tp := tp) (b9 := tk_p tp (tk_i tp k9)) hj
            have : e9 = a9 := by
              have g2 : (tk_ds tp (tk_i tp k9))[j9]? = some e9 := g2
              rw [List.getElem?_eq_getElem hj, hja] at g2
              exact (Option.some.inj g2).symm
            rw [this] at g3
            unfold tk_D at g3
            simp only [Bool.and_eq_true, decide_eq_true_eq] at g3
            omega)
          have p1 : 10 ^ ((tk_ds tp (tk_i tp k9)).map (· - 48)).length ≤ 10 ^ 4 := Nat.pow_le_pow_right (by decide) (by simpa using y3)
          omega
        · rw [if_neg y3] at h3; exact absurd h3 (by simp)
      · rw [if_neg y2] at h3
        split at h3 <;> exact absurd h3 (by simp)
theorem sp_dep_op {o9 n9 : Nat} (h4 : 4 ≤ o9) (h10 : o9 ≤ 10) : sp_dep 30 [(o9, 0)] (n9 + 2) (n9 + 1) := by
  simp only [sp_dep]
  rw [if_neg (by omega), if_neg (by omega), if_neg (by omega)]
  exact ⟨⟨h4, h10⟩, by omega, by omega⟩
/-- the code of a reading, from a depth to one more -/
theorem gr_dep {tp : List Nat} : ∀ f9 tg d9 k9 cs k1 c1, gr tp f9 tg d9 k9 cs = some (.ok (k1, c1)) → d9 ≤ 5 → ∃ cs2, c1 = cs ++ cs2 ∧ ∀ n9, n9 + 4 * (5 - d9) + gr_of tg ≤ 29 → sp_dep 30 cs2 (gr_in tg n9) (n9 + 1) := by
  intro f9
  induction f9 with
  | zero => intro tg d9 k9 cs k1 c1 h9; unfold gr at h9; cases h9
  | succ f9 ih9 =>
    intro tg d9 k9 cs k1 c1 h9 hd
    have bnd : ∀ {tg1 d1 k0 : Nat} {c0 : List (Nat × Int32)} {F9 : Nat → List (Nat × Int32) → gr_R}, gr_b (gr tp f9 tg1 d1 k0 c0) F9 = some (.ok (k1, c1)) → d1 ≤ 5 → ∃ k2 c2 cs2, (c2 = c0 ++ cs2 ∧ ∀ n9, n9 + 4 * (5 - d1) + gr_of tg1 ≤ 29 → sp_dep 30 cs2 (gr_in tg1 n9) (n9 + 1)) ∧ F9 k2 c2 = some (.ok (k1, c1)) := fun {tg1 d1 k0 c0 F9} z9 y9 => by
      cases hq : gr tp f9 tg1 d1 k0 c0 with
      | none => rw [hq] at z9; cases z9
      | some w9 =>
        cases w9 with
        | error e9 => rw [hq] at z9; cases z9
        | ok p9 =>
          obtain ⟨k2, c2⟩ := p9
          rw [hq] at z9
          obtain ⟨cs2, e2, e3⟩ := ih9 _ _ _ _ _ _ hq y9
          exact ⟨k2, c2, cs2, ⟨e2, e3⟩, z9⟩
    have okk : ∀ {k2 : Nat} {c2 : List (Nat × Int32)}, (some (.ok (k2, c2)) : gr_R) = some (.ok (k1, c1)) → k2 = k1 ∧ c2 = c1 := fun z9 => by
      injection z9 with z8
      injection z8 with z7
      injection z7 with z6 z5
      exact ⟨z6, z5⟩
    have o0 : gr_of 0 = 0 := rfl
    have o1 : gr_of 1 = 1 := rfl
    have o2 : gr_of 2 = 1 := rfl
    have o3 : gr_of 3 = 2 := rfl
    have o4 : gr_of 4 = 2 := rfl
    have o5 : gr_of 5 = 3 := rfl
    have o6 : gr_of 6 = 4 := rfl
    have o7 : gr_of 7 = 4 := rfl
    match tg, h9 with
    | 0, h9 =>
      simp only [gr] at h9
      split at h9
      · split at h9
        · cases h9
        · obtain ⟨k2, c2, cs2, ⟨e2, e3⟩, h8⟩ := bnd h9 (by omega)
          split at h8
          · obtain ⟨rfl, rfl⟩ := okk h8
            exact ⟨cs2, e2, fun n9 hn => e3 n9 (by omega)⟩
          · cases h8
      · split at h9
        · split at h9
          · cases h9
          · obtain ⟨k2, c2, cs2, ⟨e2, e3⟩, h8⟩ := bnd h9 (by omega)
            obtain ⟨rfl, rfl⟩ := okk h8
            refine ⟨cs2 ++ [(3, 0)], by rw [e2, List.append_assoc], fun n9 hn => ?_⟩
            refine sp_dep_app 30 cs2 [(3, 0)] _ (n9 + 1) _ (e3 n9 (by omega)) ?_
            simp [sp_dep]
        · split at h9
          · rename_i c3
            split at h9
            · cases h9
            · obtain ⟨rfl, rfl⟩ := okk h9
              refine ⟨[(1, nI ((tk_tok tp k9).2.getD 0 0))], rfl, fun n9 hn => ?_⟩
              have hv := tk_num_lt c3
              show sp_dep 30 [(1, nI ((tk_tok tp k9).2.getD 0 0))] n9 (n9 + 1)
              simp only [sp_dep, if_true]
              refine ⟨by omega, ⟨?_, ?_⟩, trivial⟩
              · rw [← nI_0]; exact nI_le (Nat.zero_le _) (by omega)
              · exact nI_le (b := 9999) hv (by decide)
          · cases hw : tk_wd (tk_tok tp k9) with
            | none => rw [hw] at h9; cases h9
            | some j9 =>
              have hj := tk_wd_lt hw
              rw [hw] at h9
              simp only at h9
              split at h9
              · rename_i h23
                split at h9
                · cases h9
                · obtain ⟨rfl, rfl⟩ := okk h9
                  refine ⟨[(2, nI (j9 - 23))], rfl, fun n9 hn => ?_⟩
                  show sp_dep 30 [(2, nI (j9 - 23))] n9 (n9 + 1)
                  have h3 : j9 - 23 = 0 ∨ j9 - 23 = 1 ∨ j9 - 23 = 2 := by omega
                  simp only [sp_dep]
                  rw [if_neg (by decide), if_pos trivial]
                  refine ⟨by omega, ?_, trivial⟩
                  rcases h3 with y9 | y9 | y9 <;> rw [y9]
                  · exact Or.inl rfl
                  · exact Or.inr (Or.inl rfl)
                  · exact Or.inr (Or.inr rfl)
              · cases h9
    | 1, h9 =>
      simp only [gr] at h9
      obtain ⟨k2, c2, cs2, ⟨e2, e3⟩, h8⟩ := bnd h9 hd
      obtain ⟨cs3, e4, e5⟩ := ih9 _ _ _ _ _ _ h8 hd
      exact ⟨cs2 ++ cs3, by rw [e4, e2, List.append_assoc], fun n9 hn => sp_dep_app 30 cs2 cs3 _ (n9 + 1) _ (e3 n9 (by omega)) (e5 n9 (by omega))⟩
    | 2, h9 =>
      simp only [gr] at h9
      split at h9
      · obtain ⟨k2, c2, cs2, ⟨e2, e3⟩, h8⟩ := bnd h9 hd
        obtain ⟨cs3, e4, e5⟩ := ih9 _ _ _ _ _ _ h8 hd
        exact ⟨(cs2 ++ [(6, 0)]) ++ cs3, by rw [e4, e2]; simp only [List.append_assoc], fun n9 hn => sp_dep_app 30 _ cs3 _ (n9 + 1) _ (sp_dep_app 30 cs2 [(6, 0)] _ (n9 + 1 + 1) _ (e3 (n9 + 1) (by omega)) (sp_dep_op (by omega) (by omega))) (e5 n9 (by omega))⟩
      · obtain ⟨rfl, rfl⟩ := okk h9
        exact ⟨[], by simp, fun n9 hn => rfl⟩
    | 3, h9 =>
      simp only [gr] at h9
      obtain ⟨k2, c2, cs2, ⟨e2, e3⟩, h8⟩ := bnd h9 hd
      obtain ⟨cs3, e4, e5⟩ := ih9 _ _ _ _ _ _ h8 hd
      exact ⟨cs2 ++ cs3, by rw [e4, e2, List.append_assoc], fun n9 hn => sp_dep_app 30 cs2 cs3 _ (n9 + 1) _ (e3 n9 (by omega)) (e5 n9 (by omega))⟩
    | 4, h9 =>
      simp only [gr] at h9
      split at h9
      · obtain ⟨k2, c2, cs2, ⟨e2, e3⟩, h8⟩ := bnd h9 hd
        obtain ⟨cs3, e4, e5⟩ := ih9 _ _ _ _ _ _ h8 hd
        exact ⟨(cs2 ++ [(4, 0)]) ++ cs3, by rw [e4, e2]; simp only [List.append_assoc], fun n9 hn => sp_dep_app 30 _ cs3 _ (n9 + 1) _ (sp_dep_app 30 cs2 [(4, 0)] _ (n9 + 1 + 1) _ (e3 (n9 + 1) (by omega)) (sp_dep_op (by omega) (by omega))) (e5 n9 (by omega))⟩
      · split at h9
        · obtain ⟨k2, c2, cs2, ⟨e2, e3⟩, h8⟩ := bnd h9 hd
          obtain ⟨cs3, e4, e5⟩ := ih9 _ _ _ _ _ _ h8 hd
          exact ⟨(cs2 ++ [(5, 0)]) ++ cs3, by rw [e4, e2]; simp only [List.append_assoc], fun n9 hn => sp_dep_app 30 _ cs3 _ (n9 + 1) _ (sp_dep_app 30 cs2 [(5, 0)] _ (n9 + 1 + 1) _ (e3 (n9 + 1) (by omega)) (sp_dep_op (by omega) (by omega))) (e5 n9 (by omega))⟩
        · obtain ⟨rfl, rfl⟩ := okk h9
          exact ⟨[], by simp, fun n9 hn => rfl⟩
    | 5, h9 =>
      simp only [gr] at h9
      obtain ⟨k2, c2, cs2, ⟨e2, e3⟩, h8⟩ := bnd h9 hd
      split at h8
      · obtain ⟨k3, c3, cs3, ⟨e4, e5⟩, h7⟩ := bnd h8 hd
        obtain ⟨rfl, rfl⟩ := okk h7
        exact ⟨(cs2 ++ cs3) ++ [(7, 0)], by rw [e4, e2]; simp only [List.append_assoc], fun n9 hn => sp_dep_app 30 _ [(7, 0)] _ (n9 + 1 + 1) _ (sp_dep_app 30 cs2 cs3 _ (n9 + 1) _ (e3 n9 (by omega)) (e5 (n9 + 1) (by omega))) (sp_dep_op (by omega) (by omega))⟩
      · split at h8
        · obtain ⟨k3, c3, cs3, ⟨e4, e5⟩, h7⟩ := bnd h8 hd
          obtain ⟨rfl, rfl⟩ := okk h7
          exact ⟨(cs2 ++ cs3) ++ [(8, 0)], by rw [e4, e2]; simp only [List.append_assoc], fun n9 hn => sp_dep_app 30 _ [(8, 0)] _ (n9 + 1 + 1) _ (sp_dep_app 30 cs2 cs3 _ (n9 + 1) _ (e3 n9 (by omega)) (e5 (n9 + 1) (by omega))) (sp_dep_op (by omega) (by omega))⟩
        · obtain ⟨rfl, rfl⟩ := okk h8
          exact ⟨cs2, e2, fun n9 hn => e3 n9 (by omega)⟩
    | 6, h9 =>
      simp only [gr] at h9
      obtain ⟨k2, c2, cs2, ⟨e2, e3⟩, h8⟩ := bnd h9 hd
      obtain ⟨cs3, e4, e5⟩ := ih9 _ _ _ _ _ _ h8 hd
      exact ⟨cs2 ++ cs3, by rw [e4, e2, List.append_assoc], fun n9 hn => sp_dep_app 30 cs2 cs3 _ (n9 + 1) _ (e3 n9 (by omega)) (e5 n9 (by omega))⟩
    | tg + 7, h9 =>
      have o8 : gr_of (tg + 7) = 4 := by unfold gr_of; rw [if_neg (by omega), if_neg (by omega), if_neg (by omega), if_neg (by omega), if_neg (by omega), if_neg (by omega)]
      have n8 : ∀ n9, gr_in (tg + 7) n9 = n9 + 1 := fun n9 => by unfold gr_in; rw [if_pos (by omega)]
      simp only [gr] at h9
      split at h9
      · obtain ⟨k2, c2, cs2, ⟨e2, e3⟩, h8⟩ := bnd h9 hd
        obtain ⟨cs3, e4, e5⟩ := ih9 _ _ _ _ _ _ h8 hd
        exact ⟨(cs2 ++ [(9, 0)]) ++ cs3, by rw [e4, e2]; simp only [List.append_assoc], fun n9 hn => by
          rw [n8]
          exact sp_dep_app 30 _ cs3 _ (n9 + 1) _ (sp_dep_app 30 cs2 [(9, 0)] _ (n9 + 1 + 1) _ (e3 (n9 + 1) (by omega)) (sp_dep_op (by omega) (by omega))) (e5 n9 (by omega))⟩
      · split at h9
        · obtain ⟨k2, c2, cs2, ⟨e2, e3⟩, h8⟩ := bnd h9 hd
          obtain ⟨cs3, e4, e5⟩ := ih9 _ _ _ _ _ _ h8 hd
          exact ⟨(cs2 ++ [(10, 0)]) ++ cs3, by rw [e4, e2]; simp only [List.append_assoc], fun n9 hn => by
            rw [n8]
            exact sp_dep_app 30 _ cs3 _ (n9 + 1) _ (sp_dep_app 30 cs2 [(10, 0)] _ (n9 + 1 + 1) _ (e3 (n9 + 1) (by omega)) (sp_dep_op (by omega) (by omega))) (e5 n9 (by omega))⟩
        · obtain ⟨rfl, rfl⟩ := okk h9
          exact ⟨[], by simp, fun n9 hn => by rw [n8]; rfl⟩
theorem gr_law_ok {tp : List Nat} {k9 k1 : Nat} {c1 : List (Nat × Int32)} (hk : k9 ≤ tp.length) (hh : gr_law tp k9 = .ok (k1, c1)) : sp_ok c1 := by
  have h1 := gr_law_eq hk
  rw [hh] at h1
  obtain ⟨cs2, e2, e3⟩ := gr_dep _ _ _ _ _ _ _ h1 (by omega)
  rw [e2, List.nil_append]
  exact e3 0 (by decide)
