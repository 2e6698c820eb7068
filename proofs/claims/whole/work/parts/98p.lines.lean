/-! LINES: the specification -/
def rd_b {α β : Type} (x9 : Except Nat α) (f9 : α → Except Nat β) : Except Nat β := match x9 with
  | .error e9 => .error e9
  | .ok a9 => f9 a9
theorem rd_b_ok {α β : Type} {a9 : α} {f9 : α → Except Nat β} : rd_b (.ok a9) f9 = f9 a9 := rfl
theorem rd_b_er {α β : Type} {e9 : Nat} {f9 : α → Except Nat β} : rd_b (.error e9) f9 = .error e9 := rfl
theorem rd_b_inv {α β : Type} {x9 : Except Nat α} {f9 : α → Except Nat β} {y9 : β} (hh : rd_b x9 f9 = .ok y9) : ∃ a9, x9 = .ok a9 ∧ f9 a9 = .ok y9 := by
  cases x9 with
  | error e9 => cases hh
  | ok a9 => exact ⟨a9, rfl, hh⟩
def rd_e {α : Type} (tp : List Nat) (m9 k9 : Nat) : Except Nat α := .error (m9 + 16 * tk_place tp k9)
/-- a name stands there -/
def rd_nm (tp : List Nat) (k9 : Nat) : Bool := decide ((tk_tok tp k9).1 = 2) && (match tk_wd (tk_tok tp k9) with
  | none => true
  | some j9 => decide (23 ≤ j9))
def rd_find (nm : Nat → List Nat) (n9 : Nat) (w9 : List Nat) : Option Nat := (List.range n9).find? (fun c9 => decide (nm c9 = w9))
def rd_told (tp : List Nat) (nm : Nat → List Nat) (n9 k9 : Nat) : Except Nat Nat := if rd_nm tp k9 = true then (match rd_find nm n9 (tk_tok tp k9).2 with
  | none => rd_e tp 2 k9
  | some c9 => .ok c9) else rd_e tp 1 k9
/-- a number within bounds -/
def rd_num (tp : List Nat) (lo hi k9 : Nat) : Except Nat Nat := if (tk_tok tp k9).1 = 3 then (if lo ≤ (tk_tok tp k9).2.getD 0 0 ∧ (tk_tok tp k9).2.getD 0 0 ≤ hi then .ok ((tk_tok tp k9).2.getD 0 0) else rd_e tp 4 k9) else rd_e tp 1 k9
/-- a word, and a number behind it -/
def rd_meas (tp : List Nat) (w9 lo hi k9 : Nat) : Except Nat Nat := if tk_wd (tk_tok tp k9) = some w9 then rd_num tp lo hi (k9 + 1) else rd_e tp 1 k9
/-- what has been told of a line: the line, its laws, its names, what was told once -/
abbrev rd_X : Type := sp_N × sp_E × (Nat → List Nat) × Nat
def rd_addc (X9 : rd_X) (w9 : List Nat) (j9 a9 b9 c9 : Nat) : rd_X := (sp_up (sp_up (sp_up (sp_up (sp_up X9.1 0 (X9.1 4 0) j9) 1 (X9.1 4 0) a9) 2 (X9.1 4 0) b9) 3 (X9.1 4 0) c9) 4 0 (X9.1 4 0 + 1), X9.2.1, (fun i9 => if i9 = X9.1 4 0 then w9 else X9.2.2.1 i9), X9.2.2.2)
def rd_cloth (tp : List Nat) (k9 : Nat) (X9 : rd_X) : Except Nat (Nat × rd_X) :=
  if X9.1 4 0 = 6 then rd_e tp 5 k9
  else if rd_nm tp (k9 + 1) = false then rd_e tp 1 (k9 + 1)
  else if (rd_find X9.2.2.1 (X9.1 4 0) (tk_tok tp (k9 + 1)).2).isSome = true then rd_e tp 3 (k9 + 1)
  else match tk_wd (tk_tok tp (k9 + 2)) with
    | none => rd_e tp 1 (k9 + 2)
    | some j9 => if 16 ≤ j9 ∧ j9 ≤ 19 then rd_b (rd_meas tp 1 1 20 (k9 + 3)) (fun a9 => rd_b (rd_meas tp 2 0 20 (k9 + 5)) (fun b9 => rd_b (rd_meas tp 3 0 99 (k9 + 7)) (fun c9 => .ok (k9 + 9, rd_addc X9 (tk_tok tp (k9 + 1)).2 (j9 - 16) a9 b9 c9)))) else rd_e tp 1 (k9 + 2)
def rd_addx (X9 : rd_X) (a9 b9 : Nat) : rd_X := (sp_up (sp_up (sp_up X9.1 6 (6 * a9 + b9) 1) 6 (6 * b9 + a9) 1) 4 5 (X9.1 4 5 + 1), X9.2)
def rd_clash (tp : List Nat) (k9 : Nat) (X9 : rd_X) : Except Nat (Nat × rd_X) :=
  rd_b (rd_told tp X9.2.2.1 (X9.1 4 0) (k9 + 1)) (fun a9 => rd_b (rd_told tp X9.2.2.1 (X9.1 4 0) (k9 + 2)) (fun b9 => if a9 = b9 ∨ X9.1 6 (6 * a9 + b9) = 1 then rd_e tp 3 (k9 + 2) else .ok (k9 + 3, rd_addx X9 a9 b9)))
/-- a row of numbers -/
def rd_row (tp : List Nat) (w9 most lo : Nat) : Nat → Nat → Nat → sp_N → Except Nat (Nat × Nat × sp_N)
  | 0, k9, n9, L9 => .ok (k9, n9, L9)
  | f9 + 1, k9, n9, L9 => if n9 = 0 ∨ (tk_tok tp k9).1 = 3 then rd_b (rd_num tp lo 9 k9) (fun v9 => if n9 = most then rd_e tp 5 k9 else rd_row tp w9 most lo f9 (k9 + 1) (n9 + 1) (sp_up L9 w9 n9 v9)) else .ok (k9, n9, L9)
def rd_law (E9 : sp_E) (q9 : Nat) (cs : List (Nat × Int32)) : sp_E := fun i9 => if i9 = q9 then cs else E9 i9
/-- what may be told once: 0 pegs, 1 winds, 2 yards, 3 gusts, 4 pulls, 5 dries -/
def rd_once (tp : List Nat) (k9 q9 : Nat) (X9 : rd_X) : Except Nat (Nat × rd_X) :=
  if X9.2.2.2.testBit q9 = true then rd_e tp 3 k9
  else if q9 = 0 then rd_b (rd_row tp 7 8 1 10 (k9 + 1) 0 X9.1) (fun r9 => .ok (r9.1, (sp_up r9.2.2 4 4 r9.2.1, X9.2.1, X9.2.2.1, X9.2.2.2 ||| 2 ^ q9)))
  else if q9 = 1 then rd_b (rd_row tp 5 12 0 14 (k9 + 1) 0 X9.1) (fun r9 => .ok (r9.1, (sp_up r9.2.2 4 3 r9.2.1, X9.2.1, X9.2.2.1, X9.2.2.2 ||| 2 ^ q9)))
  else if q9 = 2 then rd_b (rd_num tp 1 60 (k9 + 1)) (fun v9 => .ok (k9 + 2, (sp_up X9.1 4 1 v9, X9.2.1, X9.2.2.1, X9.2.2.2 ||| 2 ^ q9)))
  else if q9 = 3 then rd_b (rd_num tp 0 10 (k9 + 1)) (fun v9 => .ok (k9 + 2, (sp_up X9.1 4 2 v9, X9.2.1, X9.2.2.1, X9.2.2.2 ||| 2 ^ q9)))
  else rd_b (gr_law tp (k9 + 1)) (fun r9 => .ok (r9.1, (X9.1, rd_law X9.2.1 (q9 - 4) r9.2, X9.2.2.1, X9.2.2.2 ||| 2 ^ q9)))
def rd_stmt (tp : List Nat) (k9 : Nat) (X9 : rd_X) : Except Nat (Nat × rd_X) := match tk_wd (tk_tok tp k9) with
  | none => rd_e tp 1 k9
  | some j9 => if j9 = 0 then rd_cloth tp k9 X9 else if j9 = 8 then rd_clash tp k9 X9 else if 4 ≤ j9 ∧ j9 ≤ 10 then rd_once tp k9 (if j9 < 8 then j9 - 4 else j9 - 5) X9 else rd_e tp 1 k9
def rd_semi (tp : List Nat) (x9 : Except Nat (Nat × rd_X)) : Except Nat (Nat × rd_X) := rd_b x9 (fun r9 => if tk_tok tp r9.1 = (4, [59]) then .ok (r9.1 + 1, r9.2) else rd_e tp 1 r9.1)
def rd_lines (tp : List Nat) : Nat → Nat → rd_X → Except Nat rd_X
  | 0, _, X9 => .ok X9
  | f9 + 1, k9, X9 => if (tk_tok tp k9).1 = 0 then .ok X9 else rd_b (rd_semi tp (rd_stmt tp k9 X9)) (fun r9 => rd_lines tp f9 r9.1 r9.2)
def rd_X0 : rd_X := ((fun a9 b9 => if a9 = 4 ∧ b9 = 1 then 20 else if a9 = 4 ∧ b9 = 3 then 1 else if a9 = 5 ∧ b9 = 0 then 3 else 0), (fun q9 => sp_def q9), (fun _ => []), 0)
def rd_line (tp : List Nat) : Except Nat rd_X := rd_lines tp (tp.length + 1) 0 rd_X0
/-- how many clash -/
def rd_cnt (L9 : sp_N) : Nat := (List.range 36).countP (fun p9 => decide (p9 / 6 < p9 % 6) && decide (L9 6 p9 = 1))
/-- what holds of it at any time -/
def rd_ok (X9 : rd_X) : Prop := sp_okL X9.1 X9.2.1 ∧ ((∀ c9, c9 < X9.1 4 0 → 0 < (X9.2.2.1 c9).length ∧ tk_good (X9.2.2.1 c9)) ∧ ∀ c9 e9, c9 < X9.1 4 0 → e9 < X9.1 4 0 → X9.2.2.1 c9 = X9.2.2.1 e9 → c9 = e9) ∧ ((∀ a9 b9, a9 < 6 → b9 < 6 → X9.1 6 (6 * a9 + b9) = X9.1 6 (6 * b9 + a9)) ∧ (∀ a9, a9 < 6 → X9.1 6 (6 * a9 + a9) ≠ 1) ∧ X9.1 4 5 = rd_cnt X9.1 ∧ ∀ k9, X9.1 6 k9 ≤ 1) ∧ X9.2.2.2 < 64
theorem rd_find_lt {nm : Nat → List Nat} {n9 c9 : Nat} {w9 : List Nat} (hh : rd_find nm n9 w9 = some c9) : c9 < n9 ∧ nm c9 = w9 := by
  unfold rd_find at hh
  have h1 := List.mem_of_find?_eq_some hh
  have h2 := List.find?_some hh
  exact ⟨List.mem_range.mp h1, of_decide_eq_true h2⟩
theorem rd_find_no {nm : Nat → List Nat} {n9 : Nat} {w9 : List Nat} (hh : rd_find nm n9 w9 = none) : ∀ c9, c9 < n9 → nm c9 ≠ w9 := by
  intro c9 hc e9
  unfold rd_find at hh
  have := List.find?_eq_none.mp hh c9 (List.mem_range.mpr hc)
  exact this (decide_eq_true e9)
theorem rd_nm_2 {tp : List Nat} {k9 : Nat} (hh : rd_nm tp k9 = true) : (tk_tok tp k9).1 = 2 := by
  unfold rd_nm at hh
  rw [Bool.and_eq_true, decide_eq_true_eq] at hh
  exact hh.1
theorem rd_told_ok {tp : List Nat} {nm : Nat → List Nat} {n9 k9 c9 : Nat} (hh : rd_told tp nm n9 k9 = .ok c9) : c9 < n9 ∧ nm c9 = (tk_tok tp k9).2 ∧ rd_nm tp k9 = true ∧ k9 < tp.length := by
  unfold rd_told at hh
  split at hh
  · rename_i y9
    have kl : k9 < tp.length := tk_in (by rw [rd_nm_2 y9]; decide)
    cases hf : rd_find nm n9 (tk_tok tp k9).2 with
    | none => rw [hf] at hh; cases hh
    | some e9 =>
      rw [hf] at hh
      injection hh with hh
      subst hh
      exact ⟨(rd_find_lt hf).1, (rd_find_lt hf).2, y9, kl⟩
  · cases hh
theorem rd_num_ok {tp : List Nat} {lo hi k9 v9 : Nat} (hh : rd_num tp lo hi k9 = .ok v9) : lo ≤ v9 ∧ v9 ≤ hi ∧ v9 = (tk_tok tp k9).2.getD 0 0 ∧ (tk_tok tp k9).1 = 3 ∧ k9 < tp.length := by
  unfold rd_num at hh
  split at hh
  · rename_i y9
    have kl : k9 < tp.length := tk_in (by rw [y9]; decide)
    split at hh
    · rename_i y8
      injection hh with hh
      subst hh
      exact ⟨y8.1, y8.2, rfl, y9, kl⟩
    · cases hh
  · cases hh
theorem rd_meas_ok {tp : List Nat} {w9 lo hi k9 v9 : Nat} (hh : rd_meas tp w9 lo hi k9 = .ok v9) : lo ≤ v9 ∧ v9 ≤ hi ∧ k9 + 1 < tp.length := by
  unfold rd_meas at hh
  split at hh
  · have := rd_num_ok hh
    exact ⟨this.1, this.2.1, this.2.2.2.2⟩
  · cases hh
theorem rd_cnt_le (L9 : sp_N) : rd_cnt L9 ≤ 15 := by
  have h1 : rd_cnt L9 ≤ (List.range 36).countP (fun p9 => decide (p9 / 6 < p9 % 6)) := by
    unfold rd_cnt
    apply List.countP_mono_left
    intro p9 _ h9
    rw [Bool.and_eq_true] at h9
    exact h9.1
  have h2 : (List.range 36).countP (fun p9 => decide (p9 / 6 < p9 % 6)) = 15 := by decide
  omega
theorem rd_cnt_up {f9 g9 : Nat → Bool} {p0 : Nat} (h0 : f9 p0 = false) (h1 : g9 p0 = true) (h2 : ∀ p9, p9 ≠ p0 → g9 p9 = f9 p9) : ∀ n9, (List.range n9).countP g9 = (List.range n9).countP f9 + (if p0 < n9 then 1 else 0) := by
  intro n9
  induction n9 with
  | zero => rfl
  | succ n9 ih9 =>
    rw [List.range_succ, List.countP_append, List.countP_append, ih9, List.countP_singleton, List.countP_singleton]
    by_cases z9 : n9 = p0
    · subst z9
      rw [h0, h1]
      simp
    · rw [h2 n9 z9]
      by_cases y9 : p0 < n9
      · rw [if_pos y9, if_pos (show p0 < n9 + 1 by omega)]; omega
      · rw [if_neg y9, if_neg (show ¬ p0 < n9 + 1 by omega)]; omega
theorem rd_cnt_cong {L9 L8 : sp_N} (hh : ∀ p9, L8 6 p9 = L9 6 p9) : rd_cnt L8 = rd_cnt L9 := by
  unfold rd_cnt
  congr 1
  funext p9
  rw [hh p9]
