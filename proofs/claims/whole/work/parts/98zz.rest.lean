/-! the class: is a pair at rest -/
section RCR
variable {S : pg_S} {Λ : pg_L} {d : Nat} {M : pg_M} {a b c : Int32}
def rc_re (a b c : Int32) (g t e : Nat) : Bool := decide (¬ sp_lt a b c e t < sp_lt a b c g t) && decide (sp_lt a b c g e ≤ sp_lt a b c g t)
def rc_ra (a b c : Int32) (g t : Nat) : Nat → Nat → Bool
  | 0, _ => true
  | n + 1, e => rc_re a b c g t e && rc_ra a b c g t n (e + 1)
theorem rc_r1 : ∀ k : Nat, k < 9 → nI k / 3 = nI (k / 3) := by decide +kernel
theorem rc_r2 : ∀ k : Nat, k < 9 → nI k - nI (k / 3) * 3 = nI (k % 3) := by decide +kernel
theorem rc_r3 : ∀ k : Nat, k < 3 → ¬ (3 : Int32) ≤ nI k := by decide +kernel
theorem rc_r4 : ∀ k : Nat, k < 3 → nI k + 1 = nI (k + 1) := by decide +kernel
theorem rc_isRest25 {g t : Nat} (hg : g < 3) (ht : t < 3) : ∀ n e : Nat, n + e = 3 → pg_At S Λ YX10_isRest (d + 1) 25 [(0, .int a), (1, .int b), (2, .int c), (4, .int (nI g)), (5, .int (nI t)), (6, .int (sp_lt a b c g t)), (7, .int (nI e))] [] M (fun r M' => ∃ v, r = some (.int v) ∧ (v = b2i (rc_ra a b c g t n e) ∧ M' = M)) := by
  intro n
  induction n with
  | zero =>
    intro e he
    obtain rfl : e = 3 := by omega
    exact sX10_isRest_25 (Q0 := fun _ _ => True) (Q1 := fun _ _ => True) (fun _ => ⟨1, rfl, rfl, rfl⟩) (fun h => absurd (by decide) h) (fun h => absurd (by decide) h) (fun h => absurd (by decide) h) (fun h => absurd (by decide) h) (fun h => absurd (by decide) h)
  | succ n ih =>
    intro e he
    have he3 : e < 3 := by omega
    refine sX10_isRest_25 (Q0 := fun x M' => x = sp_lt a b c e t ∧ M' = M) (Q1 := fun x M' => x = sp_lt a b c g e ∧ M' = M) (fun h => absurd h (rc_r3 e he3)) (fun _ => rc_loot he3 ht) (fun _ x1 M1 q1 h1 => ?_) (fun _ x1 M1 q1 h1 => ?_) (fun _ x1 M1 q1 h1 x2 M2 q2 h2 => ?_) (fun _ x1 M1 q1 h1 x2 M2 q2 h2 => ?_)
    · obtain ⟨rfl, rfl⟩ := q1
      exact ⟨0, rfl, by simp [rc_ra, rc_re, h1, b2i], rfl⟩
    · obtain ⟨rfl, rfl⟩ := q1
      exact rc_loot hg he3
    · obtain ⟨rfl, rfl⟩ := q1
      obtain ⟨rfl, rfl⟩ := q2
      have h9 := ih (e + 1) (by omega)
      rw [← rc_r4 e he3] at h9
      have e9 : rc_ra a b c g t (n + 1) e = rc_ra a b c g t n (e + 1) := by simp [rc_ra, rc_re, h1, h2]
      rw [e9]
      exact h9
    · obtain ⟨rfl, rfl⟩ := q1
      obtain ⟨rfl, rfl⟩ := q2
      exact ⟨0, rfl, by simp [rc_ra, rc_re, h2, b2i], rfl⟩
theorem rc_isRest9 {k : Nat} (hk : k < 9) : pg_Ev S Λ YX10_isRest (d + 1) [.int a, .int b, .int c, .int (nI k)] M (fun r M' => ∃ v, r = some (.int v) ∧ (v = b2i (rc_ra a b c (k / 3) (k % 3) 3 0) ∧ M' = M)) := by
  have hg : k / 3 < 3 := by omega
  have ht : k % 3 < 3 := by omega
  refine oX10_isRest (sX10_isRest_0 (Q0 := fun x M' => x = sp_lt a b c (k / 3) (k % 3) ∧ M' = M) ?_ (fun x1 M1 q1 => ?_))
  · rw [rc_r1 k hk, rc_r2 k hk]
    exact rc_loot hg ht
  · obtain ⟨rfl, rfl⟩ := q1
    rw [rc_r1 k hk, rc_r2 k hk]
    exact rc_isRest25 hg ht 3 0 rfl
theorem rc_ra_ris (ha : ¬ a < 0) (hb : ¬ b < 0) (hc : ¬ c < 0) {k : Nat} (hk : k < 9) : rc_ra a b c (k / 3) (k % 3) 3 0 = sp_ris a b c k := by
  have z0 : (0 : Int32).toInt = 0 := by decide
  have ha' : 0 ≤ a.toInt := by have h := mt Int32.lt_iff_toInt_lt.mpr ha; rw [z0] at h; omega
  have hb' : 0 ≤ b.toInt := by have h := mt Int32.lt_iff_toInt_lt.mpr hb; rw [z0] at h; omega
  have hc' : 0 ≤ c.toInt := by have h := mt Int32.lt_iff_toInt_lt.mpr hc; rw [z0] at h; omega
  rcases (by omega : k = 0 ∨ k = 1 ∨ k = 2 ∨ k = 3 ∨ k = 4 ∨ k = 5 ∨ k = 6 ∨ k = 7 ∨ k = 8) with rfl | rfl | rfl | rfl | rfl | rfl | rfl | rfl | rfl
  all_goals
    rw [Bool.eq_iff_iff]
    simp [rc_ra, rc_re, sp_ris, sp_lt, sp_wv, Int32.lt_iff_toInt_lt, Int32.le_iff_toInt_le, ← Int32.toInt_inj]
    try omega
end RCR
