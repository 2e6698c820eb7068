/-! THE GRAMMAR of laws: the specification; words -/
theorem tk_w_inj {B9 : Nat} : ∀ n9 (l1 l2 : List Nat), l1.length = n9 → (∀ x9, x9 ∈ l1 → 1 ≤ x9 ∧ x9 < B9) → (∀ x9, x9 ∈ l2 → 1 ≤ x9 ∧ x9 < B9) → sp_w B9 l1 = sp_w B9 l2 → l1 = l2 := by
  intro n9
  induction n9 with
  | zero =>
    intro l1 l2 h1 _ g2 e9
    have z9 : l1 = [] := List.length_eq_zero_iff.mp h1
    subst z9
    rcases List.eq_nil_or_concat l2 with y9 | ⟨b9, y9, rfl⟩
    · exact y9.symm
    · rw [List.concat_eq_append, tk_w_app] at e9
      have := g2 y9 (by simp)
      have z8 : sp_w B9 [] = 0 := rfl
      omega
  | succ n9 ih9 =>
    intro l1 l2 h1 g1 g2 e9
    rcases List.eq_nil_or_concat l1 with y9 | ⟨a9, x9, rfl⟩
    · subst y9; exact absurd h1 (by simp)
    · rw [List.concat_eq_append] at h1 g1 e9 ⊢
      rw [tk_w_app] at e9
      have gx := g1 x9 (by simp)
      rcases List.eq_nil_or_concat l2 with y9 | ⟨b9, y9, rfl⟩
      · subst y9
        have z8 : sp_w B9 [] = 0 := rfl
        omega
      · rw [List.concat_eq_append] at g2 e9 ⊢
        rw [tk_w_app] at e9
        have gy := g2 y9 (by simp)
        have m1 : (B9 * sp_w B9 a9 + x9) % B9 = x9 := by rw [Nat.mul_add_mod, Nat.mod_eq_of_lt gx.2]
        have m2 : (B9 * sp_w B9 b9 + y9) % B9 = y9 := by rw [Nat.mul_add_mod, Nat.mod_eq_of_lt gy.2]
        have exy : x9 = y9 := by rw [← m1, e9, m2]
        subst exy
        have eab : sp_w B9 a9 = sp_w B9 b9 := Nat.eq_of_mul_eq_mul_left (show 0 < B9 by omega) (by omega)
        rw [ih9 a9 b9 (by simp at h1; omega) (fun z9 hz => g1 z9 (by simp [hz])) (fun z9 hz => g2 z9 (by simp [hz])) eab]
theorem tk_w_lt {B9 : Nat} (hB : 0 < B9) : ∀ n9 (l1 : List Nat), l1.length = n9 → (∀ x9, x9 ∈ l1 → x9 < B9) → sp_w B9 l1 < B9 ^ n9 := by
  intro n9
  induction n9 with
  | zero =>
    intro l1 h1 _
    have z9 : l1 = [] := List.length_eq_zero_iff.mp h1
    subst z9
    show 0 < B9 ^ 0
    simp
  | succ n9 ih9 =>
    intro l1 h1 g1
    rcases List.eq_nil_or_concat l1 with y9 | ⟨a9, x9, rfl⟩
    · subst y9; exact absurd h1 (by simp)
    · rw [List.concat_eq_append] at h1 g1 ⊢
      rw [tk_w_app]
      have gx := g1 x9 (by simp)
      have := ih9 a9 (by simp at h1; omega) (fun z9 hz => g1 z9 (by simp [hz]))
      have h2 : B9 * (sp_w B9 a9 + 1) ≤ B9 * B9 ^ n9 := Nat.mul_le_mul_left _ this
      rw [Nat.pow_succ, Nat.mul_comm (B9 ^ n9)]
      rw [Nat.mul_add] at h2
      omega
/-- a word as a token can have it -/
def tk_good (l9 : List Nat) : Prop := l9.length ≤ 8 ∧ ∀ x9, x9 ∈ l9 → 1 ≤ x9 ∧ x9 < 27
theorem tk_words_good : ∀ w9, w9 ∈ tk_words → tk_good w9 := by
  have : (tk_words.all (fun w9 => decide (w9.length ≤ 8) && w9.all (fun x9 => decide (1 ≤ x9) && decide (x9 < 27)))) = true := by decide +kernel
  intro w9 hw
  have h1 := List.all_eq_true.mp this w9 hw
  rw [Bool.and_eq_true, decide_eq_true_eq] at h1
  refine ⟨h1.1, fun x9 hx => ?_⟩
  have h2 := List.all_eq_true.mp h1.2 x9 hx
  simp only [Bool.and_eq_true, decide_eq_true_eq] at h2
  exact h2
theorem tk_code {l1 l2 : List Nat} (g1 : tk_good l1) (g2 : tk_good l2) : lN (sp_w 32 l1) = lN (sp_w 32 l2) ↔ l1 = l2 := by
  constructor
  · intro e9
    have b1 := tk_w_lt (B9 := 32) (by decide) _ l1 rfl (fun x9 hx => by have := g1.2 x9 hx; omega)
    have b2 := tk_w_lt (B9 := 32) (by decide) _ l2 rfl (fun x9 hx => by have := g2.2 x9 hx; omega)
    have p1 : 32 ^ l1.length ≤ 32 ^ 8 := Nat.pow_le_pow_right (by decide) g1.1
    have p2 : 32 ^ l2.length ≤ 32 ^ 8 := Nat.pow_le_pow_right (by decide) g2.1
    have e8 : sp_w 32 l1 = sp_w 32 l2 := by
      have h1 := congrArg (fun z9 : Int64 => z9.toBitVec.toNat) e9
      have hb9 : ∀ n9, (lN n9).toBitVec = BitVec.ofNat 64 n9 := fun _ => rfl
      simp only [hb9, BitVec.toNat_ofNat] at h1
      rw [Nat.mod_eq_of_lt (by omega), Nat.mod_eq_of_lt (by omega)] at h1
      exact h1
    exact tk_w_inj _ l1 l2 rfl (fun x9 hx => by have := g1.2 x9 hx; omega) (fun x9 hx => by have := g2.2 x9 hx; omega) e8
  · intro e9; rw [e9]
/-- which of the words a token is -/
def tk_wd (t9 : Nat × List Nat) : Option Nat := if t9.1 = 2 then tk_words.findIdx? (fun w9 => decide (w9 = t9.2)) else none
theorem tk_kw_wd {l9 : List Nat} (hg : tk_good l9) : tk_kw l9 = match tk_words.findIdx? (fun w9 => decide (w9 = l9)) with
    | some k9 => nI k9
    | none => -1 := by
  have : ∀ ws : List (List Nat), (∀ w9, w9 ∈ ws → tk_good w9) → ws.findIdx? (fun w9 => decide (lN (sp_w 32 w9) = lN (sp_w 32 l9))) = ws.findIdx? (fun w9 => decide (w9 = l9)) := by
    intro ws
    induction ws with
    | nil => intro _; rfl
    | cons w9 ws ih9 =>
      intro hw
      rw [List.findIdx?_cons, List.findIdx?_cons, ih9 (fun v9 hv => hw v9 (by simp [hv])), decide_eq_decide.mpr (tk_code (hw w9 (by simp)) hg)]
  unfold tk_kw tk_kn
  rw [this tk_words tk_words_good]
  generalize List.findIdx? (fun w9 => decide (w9 = l9)) tk_words = o9
  cases o9 <;> rfl
theorem tk_wlen : tk_words.length = 26 := by decide +kernel
theorem tk_wd_lt {t9 : Nat × List Nat} {j9 : Nat} (hw : tk_wd t9 = some j9) : j9 < 26 := by
  unfold tk_wd at hw
  split at hw
  · have := List.findIdx?_eq_some_iff_findIdx_eq.mp hw
    rw [← tk_wlen]; exact this.1
  · cases hw
theorem tk_t_good {tp : List Nat} {b9 : Nat} (h2 : (tk_t tp b9).1 = 2) : tk_good (tk_t tp b9).2 := by
  unfold tk_t at h2 ⊢
  cases hc : tp[tk_p tp b9]? with
  | none => rw [hc] at h2; exact absurd h2 (by simp)
  | some c9 =>
    rw [hc] at h2
    simp only at h2 ⊢
    by_cases y1 : tk_L c9 = true
    · rw [if_pos y1] at h2 ⊢
      by_cases y2 : (tk_ls tp b9).length ≤ 8
      · rw [if_pos y2]
        refine ⟨by simpa using y2, fun x9 hx => ?_⟩
        simp only [List.mem_map] at hx
        obtain ⟨a9, ha, rfl⟩ := hx
        obtain ⟨j9, hj, hja⟩ := List.getElem_of_mem ha
        obtain ⟨e9, _, g2, g3⟩ := tk_run_in (p := tk_L) (tp := tp) (b9 := tk_p tp b9) hj
        have : e9 = a9 := by
          have g2 : (tk_ls tp b9)[j9]? = some e9 := g2
          rw [List.getElem?_eq_getElem hj, hja] at g2
          exact (Option.some.inj g2).symm
        rw [this] at g3
        unfold tk_L at g3
        simp only [Bool.and_eq_true, decide_eq_true_eq] at g3
        omega
      · rw [if_neg y2] at h2; exact absurd h2 (by simp)
    · rw [if_neg y1] at h2
      split at h2
      · split at h2 <;> exact absurd h2 (by simp)
      · split at h2 <;> exact absurd h2 (by simp)
/-- the class's word of a token -/
theorem rc_tok.w {M : pg_M} {tp : List Nat} {k9 : Nat} (hh : rc_tok M (tk_tok tp k9)) (h2 : (tk_tok tp k9).1 = 2) : M.1 1 7 = match tk_wd (tk_tok tp k9) with
    | some j9 => nI j9
    | none => -1 := by
  have hgood : tk_good (tk_tok tp k9).2 := tk_t_good h2
  rw [(hh.2.1 h2).2, tk_kw_wd hgood]
  unfold tk_wd
  rw [if_pos h2]
theorem rc_tok.wj {M : pg_M} {tp : List Nat} {k9 j9 : Nat} (hh : rc_tok M (tk_tok tp k9)) (h2 : (tk_tok tp k9).1 = 2) (hj : j9 < 26) : M.1 1 7 = nI j9 ↔ tk_wd (tk_tok tp k9) = some j9 := by
  rw [hh.w h2]
  cases hw : tk_wd (tk_tok tp k9) with
  | none =>
    constructor
    · intro z9
      have := nI_pos (n := j9) (by omega)
      rw [← show (-1 : Int32) = nI j9 from z9] at this
      exact absurd this (by decide)
    · intro z9; cases z9
  | some i9 =>
    have := tk_wd_lt hw
    show nI i9 = nI j9 ↔ some i9 = some j9
    rw [nI_eq (by omega) (by omega)]
    constructor
    · intro z9; rw [z9]
    · intro z9; exact Option.some.inj z9
theorem tk_wd_2 {t9 : Nat × List Nat} {j9 : Nat} (hw : tk_wd t9 = some j9) : t9.1 = 2 := by
  unfold tk_wd at hw
  by_cases z9 : t9.1 = 2
  · exact z9
  · rw [if_neg z9] at hw; cases hw
theorem tk_sc_lt {tp : List Nat} {k9 : Nat} (hk : tk_ok tp) : ∃ n9, n9 < 128 ∧ tk_sc (tk_tok tp k9) = nI n9 ∧ ((tk_tok tp k9).1 = 4 → tk_tok tp k9 = (4, [n9]) ∧ tk_G n9 = true) ∧ ((tk_tok tp k9).1 ≠ 4 → (tk_tok tp k9).1 = n9 ∧ n9 < 4) := by
  unfold tk_tok tk_t tk_sc
  cases hc : tp[tk_p tp (tk_i tp k9)]? with
  | none => exact ⟨0, by omega, rfl, fun z9 => absurd z9 (by simp), fun _ => ⟨rfl, by omega⟩⟩
  | some c9 =>
    have hc8 := hk.2 _ _ hc
    simp only
    split
    · split
      · exact ⟨2, by omega, rfl, fun z9 => absurd z9 (by simp), fun _ => ⟨rfl, by omega⟩⟩
      · exact ⟨1, by omega, rfl, fun z9 => absurd z9 (by simp), fun _ => ⟨rfl, by omega⟩⟩
    · split
      · split
        · exact ⟨3, by omega, rfl, fun z9 => absurd z9 (by simp), fun _ => ⟨rfl, by omega⟩⟩
        · exact ⟨1, by omega, rfl, fun z9 => absurd z9 (by simp), fun _ => ⟨rfl, by omega⟩⟩
      · split
        · rename_i y9
          exact ⟨c9, hc8, rfl, fun _ => ⟨rfl, y9⟩, fun z9 => absurd rfl z9⟩
        · exact ⟨1, by omega, rfl, fun z9 => absurd z9 (by simp), fun _ => ⟨rfl, by omega⟩⟩
theorem tk_G_4 {n9 : Nat} (hg : tk_G n9 = true) : 40 ≤ n9 := by
  unfold tk_G at hg
  simp only [Bool.or_eq_true, decide_eq_true_eq] at hg
  omega
theorem rc_tok.s4 {M : pg_M} {tp : List Nat} {k9 c9 : Nat} (hk : tk_ok tp) (hh : rc_tok M (tk_tok tp k9)) (hc : 4 ≤ c9) (hc2 : c9 < 2 ^ 31) : M.1 1 4 = nI c9 ↔ tk_tok tp k9 = (4, [c9]) := by
  obtain ⟨n9, h1, h2, h3, h4⟩ := tk_sc_lt (k9 := k9) hk
  rw [hh.1, h2, nI_eq (by omega) hc2]
  by_cases z9 : (tk_tok tp k9).1 = 4
  · rw [(h3 z9).1]; simp
  · have := (h4 z9).2
    constructor
    · intro y9; omega
    · intro y9; rw [y9] at z9; exact absurd rfl z9
theorem rc_tok.s0 {M : pg_M} {tp : List Nat} {k9 c9 : Nat} (hk : tk_ok tp) (hh : rc_tok M (tk_tok tp k9)) (hc : c9 < 4) : M.1 1 4 = nI c9 ↔ (tk_tok tp k9).1 = c9 := by
  obtain ⟨n9, h1, h2, h3, h4⟩ := tk_sc_lt (k9 := k9) hk
  rw [hh.1, h2, nI_eq (by omega) (by omega)]
  by_cases z9 : (tk_tok tp k9).1 = 4
  · have := tk_G_4 (h3 z9).2
    rw [z9]; omega
  · rw [(h4 z9).1]
/-- a token that is not the end stands within the tape -/
theorem tk_i_ge {tp : List Nat} : ∀ k9, min k9 tp.length ≤ tk_i tp k9 := by
  intro k9
  induction k9 with
  | zero => exact Nat.zero_le _
  | succ k9 ih9 =>
    show _ ≤ min tp.length (tk_p tp (tk_i tp k9) + max 1 _)
    have : tk_i tp k9 ≤ tk_p tp (tk_i tp k9) := Nat.le_add_right _ _
    omega
theorem tk_in {tp : List Nat} {k9 : Nat} (hn : (tk_tok tp k9).1 ≠ 0) : k9 < tp.length := by
  have h1 := tk_i_ge (tp := tp) k9
  have h2 : tk_i tp k9 ≤ tk_p tp (tk_i tp k9) := Nat.le_add_right _ _
  rcases Nat.lt_or_ge (tk_p tp (tk_i tp k9)) tp.length with z9 | z9
  · omega
  · exfalso
    apply hn
    unfold tk_tok tk_t
    rw [List.getElem?_eq_none z9]
abbrev gr_R : Type := Option (Except Nat (Nat × List (Nat × Int32)))
def gr_b (x9 : gr_R) (f9 : Nat → List (Nat × Int32) → gr_R) : gr_R := match x9 with
  | none => none
  | some (.error e9) => some (.error e9)
  | some (.ok (k9, cs)) => f9 k9 cs
def gr_e (tp : List Nat) (n9 k9 : Nat) : gr_R := some (.error (n9 + 16 * tk_place tp k9))
/-- the grammar: 0 a part, 1 a product, 2 the rest of it, 3 a sum, 4 the rest, 5 a test, 6 tests, 7 the rest -/
def gr (tp : List Nat) : Nat → Nat → Nat → Nat → List (Nat × Int32) → gr_R
  | 0, _, _, _, _ => none
  | f9 + 1, 0, d9, k9, cs =>
    if tk_tok tp k9 = (4, [40]) then (if 5 ≤ d9 then gr_e tp 5 k9 else gr_b (gr tp f9 6 (d9 + 1) (k9 + 1) cs) (fun k1 c1 => if tk_tok tp k1 = (4, [41]) then some (.ok (k1 + 1, c1)) else gr_e tp 1 k1))
    else if tk_wd (tk_tok tp k9) = some 20 then (if 5 ≤ d9 then gr_e tp 5 k9 else gr_b (gr tp f9 0 (d9 + 1) (k9 + 1) cs) (fun k1 c1 => some (.ok (k1, c1 ++ [(3, 0)]))))
    else if (tk_tok tp k9).1 = 3 then (if 5 ≤ d9 then gr_e tp 5 k9 else some (.ok (k9 + 1, cs ++ [(1, nI ((tk_tok tp k9).2.getD 0 0))])))
    else match tk_wd (tk_tok tp k9) with
      | some j9 => if 23 ≤ j9 then (if 5 ≤ d9 then gr_e tp 5 k9 else some (.ok (k9 + 1, cs ++ [(2, nI (j9 - 23))]))) else gr_e tp 1 k9
      | none => gr_e tp 1 k9
  | f9 + 1, 1, d9, k9, cs => gr_b (gr tp f9 0 d9 k9 cs) (fun k1 c1 => gr tp f9 2 d9 k1 c1)
  | f9 + 1, 2, d9, k9, cs => if tk_tok tp k9 = (4, [42]) then gr_b (gr tp f9 0 d9 (k9 + 1) cs) (fun k1 c1 => gr tp f9 2 d9 k1 (c1 ++ [(6, 0)])) else some (.ok (k9, cs))
  | f9 + 1, 3, d9, k9, cs => gr_b (gr tp f9 1 d9 k9 cs) (fun k1 c1 => gr tp f9 4 d9 k1 c1)
  | f9 + 1, 4, d9, k9, cs => if tk_tok tp k9 = (4, [43]) then gr_b (gr tp f9 1 d9 (k9 + 1) cs) (fun k1 c1 => gr tp f9 4 d9 k1 (c1 ++ [(4, 0)])) else if tk_tok tp k9 = (4, [45]) then gr_b (gr tp f9 1 d9 (k9 + 1) cs) (fun k1 c1 => gr tp f9 4 d9 k1 (c1 ++ [(5, 0)])) else some (.ok (k9, cs))
  | f9 + 1, 5, d9, k9, cs => gr_b (gr tp f9 3 d9 k9 cs) (fun k1 c1 => if tk_tok tp k1 = (4, [60]) then gr_b (gr tp f9 3 d9 (k1 + 1) c1) (fun k2 c2 => some (.ok (k2, c2 ++ [(7, 0)]))) else if tk_tok tp k1 = (4, [61]) then gr_b (gr tp f9 3 d9 (k1 + 1) c1) (fun k2 c2 => some (.ok (k2, c2 ++ [(8, 0)]))) else some (.ok (k1, c1)))
  | f9 + 1, 6, d9, k9, cs => gr_b (gr tp f9 5 d9 k9 cs) (fun k1 c1 => gr tp f9 7 d9 k1 c1)
  | f9 + 1, _, d9, k9, cs => if tk_wd (tk_tok tp k9) = some 21 then gr_b (gr tp f9 5 d9 (k9 + 1) cs) (fun k1 c1 => gr tp f9 7 d9 k1 (c1 ++ [(9, 0)])) else if tk_wd (tk_tok tp k9) = some 22 then gr_b (gr tp f9 5 d9 (k9 + 1) cs) (fun k1 c1 => gr tp f9 7 d9 k1 (c1 ++ [(10, 0)])) else some (.ok (k9, cs))
