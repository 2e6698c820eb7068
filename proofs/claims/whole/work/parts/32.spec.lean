/-! THE SPECIFICATION: numbers alone. A line: L k i (0 kind, 1 width, 2 weight, 3 worth of a cloth; 4: 0 cloths, 1 yards, 2 gusts, 3 winds, 4 pegs, 5 clashing pairs; 5 winds; 6 clash 6a+b; 7 grips), its laws E 0 (pulls), E 1 (dries) as code. A state: s k i (0 wet, 1 stains, 2 held, 3 grips; 4: 0 pegs, 1 hour). -/
abbrev sp_N : Type := Nat → Nat → Nat
abbrev sp_E : Type := Nat → List (Nat × Int32)
def sp_up (s : sp_N) (i j v : Nat) : sp_N := fun a b => if a = i ∧ b = j then v else s a b
theorem sp_up_at (s : sp_N) (i j v : Nat) : sp_up s i j v i j = v := by simp [sp_up]
theorem sp_up_ne {s : sp_N} {i j v a b : Nat} (h : ¬ (a = i ∧ b = j)) : sp_up s i j v a b = s a b := by simp [sp_up, h]
/-- the code of a law: 1 a number, 2 a fact, 3 not, 4 + 5 - 6 * 7 < 8 = 9 and 10 or -/
def sp_both (op : Nat) (x y : Int32) : Int32 := if op = 4 then x + y else if op = 5 then x - y else if op = 6 then x * y else if op = 7 then (if x < y then 1 else 0) else if op = 8 then (if x = y then 1 else 0) else if op = 9 then (if ¬ x = 0 ∧ ¬ y = 0 then 1 else 0) else (if ¬ x = 0 ∨ ¬ y = 0 then 1 else 0)
def sp_fact (w m z a : Int32) : Int32 := if a = 0 then w else if a = 1 then m else z
def sp_step (w m z : Int32) (op : Nat) (a : Int32) (st : List Int32) : List Int32 := if op = 1 then a :: st else if op = 2 then sp_fact w m z a :: st else if op = 3 then (match st with
  | x :: r => (if x = 0 then 1 else 0) :: r
  | [] => []) else (match st with
  | y :: x :: r => sp_both op x y :: r
  | l => l)
def sp_rp (w m z : Int32) : List (Nat × Int32) → List Int32 → List Int32
  | [], st => st
  | e :: cs, st => sp_rp w m z cs (sp_step w m z e.1 e.2 st)
theorem sp_rp_app (w m z : Int32) (xs ys : List (Nat × Int32)) : ∀ st, sp_rp w m z (xs ++ ys) st = sp_rp w m z ys (sp_rp w m z xs st) := by
  induction xs with
  | nil => intro st; rfl
  | cons e xs ih => intro st; exact ih _
/-- a code that leaves from depth n the depth m, never beyond B -/
def sp_dep (B : Nat) : List (Nat × Int32) → Nat → Nat → Prop
  | [], n, m => n = m
  | e :: cs, n, m => if e.1 = 1 then n < B ∧ (0 ≤ e.2 ∧ e.2 ≤ 9999) ∧ sp_dep B cs (n + 1) m else if e.1 = 2 then n < B ∧ (e.2 = 0 ∨ e.2 = 1 ∨ e.2 = 2) ∧ sp_dep B cs (n + 1) m else if e.1 = 3 then 1 ≤ n ∧ sp_dep B cs n m else (4 ≤ e.1 ∧ e.1 ≤ 10) ∧ 2 ≤ n ∧ sp_dep B cs (n - 1) m
theorem sp_dep_app (B : Nat) (xs ys : List (Nat × Int32)) : ∀ n k m, sp_dep B xs n k → sp_dep B ys k m → sp_dep B (xs ++ ys) n m := by
  induction xs with
  | nil => intro n k m h1 h2; simp only [sp_dep] at h1; subst h1; exact h2
  | cons e xs ih =>
    intro n k m h1 h2
    simp only [List.cons_append, sp_dep] at h1 ⊢
    split at h1
    · rename_i he; simp only [he, if_true]; exact ⟨h1.1, h1.2.1, ih _ _ _ h1.2.2 h2⟩
    · rename_i he; simp only [he, if_false]
      split at h1
      · rename_i he2; simp only [he2, if_true]; exact ⟨h1.1, h1.2.1, ih _ _ _ h1.2.2 h2⟩
      · rename_i he2; simp only [he2, if_false]
        split at h1
        · rename_i he3; simp only [he3, if_true]; exact ⟨h1.1, ih _ _ _ h1.2 h2⟩
        · rename_i he3; simp only [he3, if_false]; exact ⟨h1.1, h1.2.1, ih _ _ _ h1.2.2 h2⟩
/-- what a law says: the top of the stack behind its code -/
def sp_val (cs : List (Nat × Int32)) (w m z : Int32) : Int32 := (sp_rp w m z cs []).headD 0
def sp_ok (cs : List (Nat × Int32)) : Prop := sp_dep 30 cs 0 1
/-- ints cut to 0 .. n -/
def sp_cut (n : Nat) (x : Int32) : Nat := if x < 0 then 0 else if nI n < x then n else x.toNatClampNeg
def sp_mass (L : sp_N) (c wet : Nat) : Nat := L 2 c + (if L 0 c = 3 then 2 * wet else wet)
def sp_pull (L : sp_N) (E : sp_E) (c wet wind : Nat) : Nat :=
  let v := sp_cut 99 (sp_val (E 0) (nI wind) (nI (sp_mass L c wet)) (nI (L 1 c)))
  if L 0 c = 2 then 2 * v else v
def sp_dry (L : sp_N) (E : sp_E) (c wet wind : Nat) : Nat := wet - sp_cut 9 (sp_val (E 1) (nI wind) (nI (sp_mass L c wet)) (nI (L 1 c)))
def sp_wind (L : sp_N) (h : Nat) : Nat := L 5 (h % L 4 3)
def sp_needs (L : sp_N) (c : Nat) : Nat := if L 0 c = 1 then 4 else 2
def sp_law (L s : sp_N) (c : Nat) : Bool := decide (sp_pc (s 2 c) = sp_needs L c) && decide (s 1 c < 3)
def sp_turn (s : sp_N) (c : Nat) : Bool := decide (sp_pc (s 2 c) = 1)
def sp_laws (L s : sp_N) : Nat := sp_mk (sp_law L s) (L 4 0)
def sp_turns (L s : sp_N) : Nat := sp_mk (sp_turn s) (L 4 0)
def sp_worth (L : sp_N) (set : Nat) : Nat := fb_sm (fun c => if set.testBit c then L 3 c else 0) (L 4 0)
def sp_roomBy (L : sp_N) (c many : Nat) : Nat := if many = 0 then 0 else if many = 1 then L 1 c / 2 + 1 else L 1 c
def sp_used (L s : sp_N) : Nat := fb_sm (fun c => sp_roomBy L c (sp_pc (s 2 c))) (L 4 0)
def sp_left (L s : sp_N) : Int32 := nI (L 4 1) - nI (sp_used L s)
/-- the cloth that hangs by a peg, or none -/
def sp_by (s : sp_N) (p : Nat) : Option Nat := (List.range 6).find? (fun c => (s 2 c).testBit p)
def sp_sound (s : sp_N) : Nat := sp_mk (fun p => decide (0 < s 3 p)) (s 4 0)
def sp_free (s : sp_N) : Nat := sp_mk (fun p => decide (0 < s 3 p) && (sp_by s p).isNone) (s 4 0)
def sp_grips (s : sp_N) (bits less : Nat) : Nat := fb_sm (fun p => if bits.testBit p then s 3 p - less else 0) (s 4 0)
/-- what a line is within -/
def sp_okL (L : sp_N) (E : sp_E) : Prop :=
  L 4 0 ≤ 6 ∧ (∀ c, L 0 c ≤ 3 ∧ L 1 c ≤ 20 ∧ L 2 c ≤ 20 ∧ L 3 c ≤ 99) ∧ L 4 1 ≤ 60 ∧ L 4 2 ≤ 10 ∧ (1 ≤ L 4 3 ∧ L 4 3 ≤ 12) ∧ L 4 4 ≤ 8 ∧ (∀ j, L 5 j ≤ 9) ∧ (∀ p, L 7 p ≤ 9) ∧ sp_ok (E 0) ∧ sp_ok (E 1)
/-- what a state is within: hours up to h; pegs that are not there have no grip; cloths that are not there are bare -/
def sp_okS (L s : sp_N) (h : Nat) : Prop :=
  s 4 0 ≤ 8 ∧ s 4 1 ≤ h ∧ (∀ c, s 0 c ≤ 9 ∧ s 1 c ≤ 9 ∧ s 2 c < 2 ^ s 4 0) ∧ (∀ p, s 3 p ≤ 9) ∧ (∀ p, s 4 0 ≤ p → s 3 p = 0) ∧ (∀ c, L 4 0 ≤ c → s 0 c = 0 ∧ s 1 c = 0 ∧ s 2 c = 0) ∧ (∀ c e p, c ≠ e → (s 2 c).testBit p = true → (s 2 e).testBit p = false)
/-- a Rule of the class at r holds the code cs -/
def rc_U (M : pg_M) (r : Nat) (cs : List (Nat × Int32)) : Prop := M.1 r 2 = nI cs.length ∧ cs.length ≤ 1000 ∧ ∀ (j : Nat) (e : Nat × Int32), cs[j]? = some e → M.1 (r + 1) j = (if e.1 = 1 then e.2 else if e.1 = 2 then -1 - e.2 else if e.1 = 3 then -4 else if e.1 = 4 then -9 else if e.1 = 5 then -10 else if e.1 = 6 then -11 else if e.1 = 7 then -7 else if e.1 = 8 then -8 else if e.1 = 9 then -5 else -6)
/-- a Line of the class at l -/
def rc_L (M : pg_M) (l : Nat) (L : sp_N) (E : sp_E) : Prop :=
  M.1 l 10 = nI (L 4 0) ∧ M.1 l 11 = nI (L 4 4) ∧ M.1 l 12 = nI (L 4 3) ∧ M.1 l 13 = nI (L 4 1) ∧ M.1 l 14 = nI (L 4 2) ∧ M.1 l 15 = nI (L 4 5) ∧
  (∀ c, c < L 4 0 → M.1 (l + 2) c = nI (L 0 c) ∧ M.1 (l + 3) c = nI (L 1 c) ∧ M.1 (l + 4) c = nI (L 2 c) ∧ M.1 (l + 5) c = nI (L 3 c)) ∧
  (∀ c, c < 6 → M.1 (l + 6) c = nI (sp_mk (fun e => decide (c < e) && decide (L 6 (6 * c + e) = 1)) 6)) ∧
  (∀ p, p < L 4 4 → M.1 (l + 7) p = nI (L 7 p)) ∧ (∀ j, j < L 4 3 → M.1 (l + 8) j = nI (L 5 j)) ∧ rc_U M (l + 9) (E 0) ∧ rc_U M (l + 12) (E 1)
/-- a State of the class at a -/
def rc_S (M : pg_M) (a : Nat) (s : sp_N) : Prop :=
  M.1 a 4 = nI (s 4 0) ∧ M.1 a 5 = nI (s 4 1) ∧ (∀ c, c < 6 → M.1 (a + 1) c = nI (s 0 c) ∧ M.1 (a + 2) c = nI (s 1 c) ∧ M.1 (a + 3) c = nI (s 2 c)) ∧ ∀ p, p < s 4 0 → M.1 (a + 4) p = nI (s 3 p)
theorem rc_U.fr {M M' : pg_M} {r : Nat} {cs : List (Nat × Int32)} (h : rc_U M r cs) (h1 : M'.1 r = M.1 r) (h2 : M'.1 (r + 1) = M.1 (r + 1)) : rc_U M' r cs := by
  unfold rc_U at h ⊢
  rw [h1, h2]
  exact h
theorem rc_L.fr {M M' : pg_M} {l : Nat} {L : sp_N} {E : sp_E} (h : rc_L M l L E) (h1 : ∀ j, j < 15 → j ≠ 11 → j ≠ 14 → M'.1 (l + j) = M.1 (l + j)) : rc_L M' l L E := by
  unfold rc_L at h ⊢
  have g0 := h1 0 (by omega) (by omega) (by omega)
  have g2 := h1 2 (by omega) (by omega) (by omega)
  have g3 := h1 3 (by omega) (by omega) (by omega)
  have g4 := h1 4 (by omega) (by omega) (by omega)
  have g5 := h1 5 (by omega) (by omega) (by omega)
  have g6 := h1 6 (by omega) (by omega) (by omega)
  have g7 := h1 7 (by omega) (by omega) (by omega)
  have g8 := h1 8 (by omega) (by omega) (by omega)
  have g9 := h1 9 (by omega) (by omega) (by omega)
  have g10 := h1 10 (by omega) (by omega) (by omega)
  have g12 := h1 12 (by omega) (by omega) (by omega)
  have g13 := h1 13 (by omega) (by omega) (by omega)
  simp only [Nat.add_zero] at g0
  rw [g0, g2, g3, g4, g5, g6, g7, g8]
  obtain ⟨a1, a2, a3, a4, a5, a6, a7, a8, a9, a10, a11, a12⟩ := h
  exact ⟨a1, a2, a3, a4, a5, a6, a7, a8, a9, a10, a11.fr g9 g10, a12.fr g12 g13⟩
theorem rc_S.fr {M M' : pg_M} {a : Nat} {s : sp_N} (h : rc_S M a s) (h1 : ∀ j, j < 5 → M'.1 (a + j) = M.1 (a + j)) : rc_S M' a s := by
  unfold rc_S at h ⊢
  have g0 := h1 0 (by omega)
  simp only [Nat.add_zero] at g0
  rw [g0, h1 1 (by omega), h1 2 (by omega), h1 3 (by omega), h1 4 (by omega)]
  exact h
theorem sp_cut_le (n : Nat) (x : Int32) (hn : n < 2 ^ 31) : sp_cut n x ≤ n := by
  unfold sp_cut
  split
  · omega
  · split
    · omega
    · rename_i h1 h2
      obtain ⟨j, hj, rfl⟩ := nI_of h1
      rw [nI_clamp hj]
      rw [nI_ltI hn hj] at h2
      omega
theorem sp_cut_eq (n : Nat) (x : Int32) (hn : n < 2 ^ 31) : pg_max 0 (pg_min (nI n) x) = nI (sp_cut n x) := by
  unfold sp_cut pg_max pg_min
  by_cases h1 : x < 0
  · have h2 : x < nI n := by
      rw [fa_lt] at h1 ⊢
      rw [nI_toInt hn]
      have : (0 : Int32).toInt = 0 := rfl
      omega
    have h3 : ¬ (0 : Int32) < x := by
      rw [fa_lt] at h1 ⊢
      omega
    simp only [h1, h2, h3, if_true, if_false, nI_0]
  · obtain ⟨j, hj, rfl⟩ := nI_of h1
    simp only [h1, if_false]
    rw [nI_clamp hj]
    by_cases h2 : n < j
    · have h3 : ¬ nI j < nI n := by rw [nI_ltI hj hn]; omega
      have h4 : nI n < nI j := by rw [nI_ltI hn hj]; omega
      simp only [h3, h4, if_true, if_false]
      by_cases h5 : n = 0
      · subst h5; simp [nI_0]
      · have : (0 : Int32) < nI n := by rw [← nI_0, nI_ltI (by omega) hn]; omega
        simp [this]
    · have h4 : ¬ nI n < nI j := by rw [nI_ltI hn hj]; omega
      simp only [h4, if_false]
      by_cases h5 : j < n
      · have h6 : nI j < nI n := by rw [nI_ltI hj hn]; omega
        simp only [h6, if_true]
        by_cases h7 : j = 0
        · subst h7; simp [nI_0]
        · have : (0 : Int32) < nI j := by rw [← nI_0, nI_ltI (by omega) hj]; omega
          simp [this]
      · have h6 : ¬ nI j < nI n := by rw [nI_ltI hj hn]; omega
        have h8 : j = n := by omega
        subst h8
        simp only [h6, if_false]
        by_cases h7 : j = 0
        · subst h7; simp [nI_0]
        · have : (0 : Int32) < nI j := by rw [← nI_0, nI_ltI (by omega) hj]; omega
          simp [this]
