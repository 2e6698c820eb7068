/-! THE SPECIFICATION: what is done to a state -/
def sp_may (L s : sp_N) (c bits : Nat) : Bool := decide (s 2 c = 0) && (decide (bits ^^^ (bits &&& sp_free s) = 0) && ((decide (sp_pc bits = 1) || decide (sp_pc bits = sp_needs L c)) && decide (nI (sp_roomBy L c (sp_pc bits)) ≤ sp_left L s)))
def sp_weak (s : sp_N) (bits : Nat) : sp_N := fun k p => if k = 3 ∧ bits.testBit p = true then s 3 p - 1 else s k p
def sp_drop (s : sp_N) (c : Nat) : sp_N := sp_up (sp_up (sp_up s 2 c 0) 0 c 9) 1 c (min 9 (s 1 c + 1))
def sp_hit (L : sp_N) (E : sp_E) (s : sp_N) (c wind : Nat) : sp_N × Bool :=
  if 2 * sp_pull L E c (s 0 c) wind ≤ sp_grips s (s 2 c) 0 then (s, false)
  else if ¬ sp_pull L E c (s 0 c) wind ≤ sp_grips s (s 2 c) 0 ∨ s 2 c &&& sp_sound (sp_weak s (s 2 c)) = 0 then (sp_drop (sp_weak s (s 2 c)) c, true)
  else (sp_up (sp_weak s (s 2 c)) 2 c (s 2 c &&& sp_sound (sp_weak s (s 2 c))), false)
def sp_hits (L : sp_N) (E : sp_E) (s : sp_N) (wind : Nat) : Nat → sp_N × Nat
  | 0 => (s, 0)
  | c + 1 => if (sp_hits L E s wind c).1 2 c = 0 then sp_hits L E s wind c else ((sp_hit L E (sp_hits L E s wind c).1 c wind).1, (sp_hits L E s wind c).2 + if (sp_hit L E (sp_hits L E s wind c).1 c wind).2 then 1 else 0)
def sp_dries (L : sp_N) (E : sp_E) (s : sp_N) (wind : Nat) : Nat → sp_N
  | 0 => s
  | c + 1 => if sp_dries L E s wind c 2 c = 0 then sp_dries L E s wind c else sp_up (sp_dries L E s wind c) 0 c (sp_dry L E c (sp_dries L E s wind c 0 c) wind)
def sp_hour (L : sp_N) (E : sp_E) (s : sp_N) (gust : Nat) : sp_N × Nat :=
  (sp_up (sp_dries L E (sp_hits L E s (sp_wind L (s 4 1) + gust) (L 4 0)).1 (sp_wind L (s 4 1) + gust) (L 4 0)) 4 1 (s 4 1 + 1), (sp_hits L E s (sp_wind L (s 4 1) + gust) (L 4 0)).2)
/-- a line's first state -/
def sp_start (L : sp_N) : sp_N := fun k i => if k = 3 then (if i < L 4 4 then L 7 i else 0) else if k = 4 ∧ i = 0 then L 4 4 else 0
section SPI
variable {L s : sp_N} {E : sp_E} {h c : Nat}
theorem sp_okS.more {h' : Nat} (ho : sp_okS L s h) (hh : h ≤ h') : sp_okS L s h' := ⟨ho.1, Nat.le_trans ho.2.1 hh, ho.2.2⟩
theorem sp_okS.hour {x h' : Nat} (ho : sp_okS L s h) (hx : x ≤ h') : sp_okS L (sp_up s 4 1 x) h' := by
  obtain ⟨o1, o2, o3, o4, o5, o6, o7⟩ := ho
  refine ⟨by simpa [sp_up] using o1, by simpa [sp_up] using hx, fun c => ?_, fun p => ?_, fun p hp => ?_, fun c hc => ?_, fun c e p hce hb => ?_⟩
  · simpa [sp_up] using o3 c
  · simpa [sp_up] using o4 p
  · simp only [sp_up] at hp ⊢; simp at hp ⊢; exact o5 p hp
  · simpa [sp_up] using o6 c hc
  · simp only [sp_up] at hb ⊢; simp at hb ⊢; exact o7 c e p hce hb
theorem sp_okS.wet {v : Nat} (ho : sp_okS L s h) (hv : v ≤ 9) (hc : c < L 4 0) : sp_okS L (sp_up s 0 c v) h := by
  obtain ⟨o1, o2, o3, o4, o5, o6, o7⟩ := ho
  refine ⟨by simpa [sp_up] using o1, by simpa [sp_up] using o2, fun e => ?_, fun p => ?_, fun p hp => ?_, fun e he => ?_, fun e f p hce hb => ?_⟩
  · have := o3 e
    simp only [sp_up]
    by_cases h1 : e = c
    · subst h1; simp; exact ⟨hv, this.2⟩
    · simp [h1]; exact this
  · simpa [sp_up] using o4 p
  · simp only [sp_up] at hp ⊢; simp at hp ⊢; exact o5 p hp
  · have := o6 e he
    simp only [sp_up]
    simp [show e ≠ c by omega]; exact this
  · simp only [sp_up] at hb ⊢; simp at hb ⊢; exact o7 e f p hce hb
theorem sp_okS.stain {v : Nat} (ho : sp_okS L s h) (hv : v ≤ 9) (hc : c < L 4 0) : sp_okS L (sp_up s 1 c v) h := by
  obtain ⟨o1, o2, o3, o4, o5, o6, o7⟩ := ho
  refine ⟨by simpa [sp_up] using o1, by simpa [sp_up] using o2, fun e => ?_, fun p => ?_, fun p hp => ?_, fun e he => ?_, fun e f p hce hb => ?_⟩
  · have := o3 e
    simp only [sp_up]
    by_cases h1 : e = c
    · subst h1; simp; exact ⟨this.1, hv, this.2.2⟩
    · simp [h1]; exact this
  · simpa [sp_up] using o4 p
  · simp only [sp_up] at hp ⊢; simp at hp ⊢; exact o5 p hp
  · have := o6 e he
    simp only [sp_up]
    simp [show e ≠ c by omega]; exact this
  · simp only [sp_up] at hb ⊢; simp at hb ⊢; exact o7 e f p hce hb
/-- held by v, none of whose pegs holds another cloth -/
theorem sp_okS.held {v : Nat} (ho : sp_okS L s h) (hv : v < 2 ^ s 4 0) (hd : ∀ e p, e ≠ c → v.testBit p = true → (s 2 e).testBit p = false) (hc : c < L 4 0) : sp_okS L (sp_up s 2 c v) h := by
  obtain ⟨o1, o2, o3, o4, o5, o6, o7⟩ := ho
  refine ⟨by simpa [sp_up] using o1, by simpa [sp_up] using o2, fun e => ?_, fun p => ?_, fun p hp => ?_, fun e he => ?_, fun e f p hce hb => ?_⟩
  · have := o3 e
    simp only [sp_up]
    by_cases h1 : e = c
    · subst h1; simp; exact ⟨this.1, this.2.1, hv⟩
    · simp [h1]; exact this
  · simpa [sp_up] using o4 p
  · simp only [sp_up] at hp ⊢; simp at hp ⊢; exact o5 p hp
  · have := o6 e he
    simp only [sp_up]
    simp [show e ≠ c by omega]; exact this
  · simp only [sp_up, true_and] at hb ⊢
    by_cases h1 : e = c
    · subst h1
      simp only [if_true] at hb
      rw [if_neg (fun q => hce q.symm)]
      exact hd f p (fun q => hce q.symm) hb
    · rw [if_neg h1] at hb
      by_cases h2 : f = c
      · subst h2
        rw [if_pos rfl]
        cases hx : v.testBit p with
        | false => rfl
        | true => rw [hd e p h1 hx] at hb; cases hb
      · rw [if_neg h2]; exact o7 e f p hce hb
theorem sp_okS.weak {bits : Nat} (ho : sp_okS L s h) : sp_okS L (sp_weak s bits) h := by
  obtain ⟨o1, o2, o3, o4, o5, o6, o7⟩ := ho
  refine ⟨by simpa [sp_weak] using o1, by simpa [sp_weak] using o2, fun e => ?_, fun p => ?_, fun p hp => ?_, fun e he => ?_, fun e f p hce hb => ?_⟩
  · simpa [sp_weak] using o3 e
  · have := o4 p
    simp only [sp_weak]
    split <;> omega
  · have hp' : s 4 0 ≤ p := by simpa [sp_weak] using hp
    have := o5 p hp'
    simp only [sp_weak]
    split <;> omega
  · simpa [sp_weak] using o6 e he
  · simp only [sp_weak] at hb ⊢; simp at hb ⊢; exact o7 e f p hce hb
theorem sp_weak_2 (s : sp_N) (bits : Nat) : sp_weak s bits 2 = s 2 := by funext e; simp [sp_weak]
theorem sp_weak_4 (s : sp_N) (bits : Nat) : sp_weak s bits 4 = s 4 := by funext e; simp [sp_weak]
theorem sp_okS.sub {v : Nat} (ho : sp_okS L s h) (hc : c < L 4 0) : sp_okS L (sp_up s 2 c (s 2 c &&& v)) h := by
  have h1 := (ho.2.2.1 c).2.2
  refine ho.held (Nat.lt_of_le_of_lt Nat.and_le_left h1) (fun e p he hb => ?_) hc
  rw [Nat.testBit_and, Bool.and_eq_true] at hb
  exact ho.2.2.2.2.2.2 c e p (fun q => he q.symm) hb.1
theorem sp_okS.zero (ho : sp_okS L s h) (hc : c < L 4 0) : sp_okS L (sp_up s 2 c 0) h := by
  refine ho.held (Nat.pow_pos (by decide)) (fun e p he hb => ?_) hc
  simp at hb
theorem sp_okS.drop (ho : sp_okS L s h) (hc : c < L 4 0) : sp_okS L (sp_drop s c) h :=
  ((ho.zero hc).wet (Nat.le_refl 9) hc).stain (by omega) hc
theorem sp_okS.hit {wind : Nat} (ho : sp_okS L s h) (hc : c < L 4 0) : sp_okS L (sp_hit L E s c wind).1 h := by
  unfold sp_hit
  split
  · exact ho
  · split
    · exact ho.weak.drop hc
    · have := ho.weak (bits := s 2 c) |>.sub (v := sp_sound (sp_weak s (s 2 c))) hc
      rw [sp_weak_2] at this
      exact this
theorem sp_okS.hits {wind : Nat} (ho : sp_okS L s h) : ∀ n, n ≤ L 4 0 → sp_okS L (sp_hits L E s wind n).1 h := by
  intro n
  induction n with
  | zero => intro _; exact ho
  | succ n ih =>
    intro hn
    simp only [sp_hits]
    split
    · exact ih (by omega)
    · exact (ih (by omega)).hit (by omega)
theorem sp_dry_le {wet wind : Nat} : sp_dry L E c wet wind ≤ wet := Nat.sub_le _ _
theorem sp_okS.dries {wind : Nat} (ho : sp_okS L s h) : ∀ n, n ≤ L 4 0 → sp_okS L (sp_dries L E s wind n) h := by
  intro n
  induction n with
  | zero => intro _; exact ho
  | succ n ih =>
    intro hn
    simp only [sp_dries]
    split
    · exact ih (by omega)
    · have h1 := ih (by omega)
      exact h1.wet (Nat.le_trans sp_dry_le (h1.2.2.1 n).1) (by omega)
theorem sp_okS.pass {gust : Nat} (ho : sp_okS L s h) : sp_okS L (sp_hour L E s gust).1 (h + 1) :=
  ((ho.hits (L 4 0) (Nat.le_refl _)).dries (L 4 0) (Nat.le_refl _)).hour (by have := ho.2.1; omega)
theorem sp_hits_4 {wind : Nat} : ∀ n, (sp_hits L E s wind n).1 4 = s 4 := by
  intro n
  induction n with
  | zero => rfl
  | succ n ih =>
    simp only [sp_hits]
    split
    · exact ih
    · rw [← ih]
      generalize (sp_hits L E s wind n).1 = t
      unfold sp_hit
      split
      · rfl
      · split
        · funext i; simp [sp_drop, sp_up, sp_weak]
        · funext i; simp [sp_up, sp_weak]
theorem sp_dries_4 {wind : Nat} : ∀ n, sp_dries L E s wind n 4 = s 4 := by
  intro n
  induction n with
  | zero => rfl
  | succ n ih =>
    simp only [sp_dries]
    split
    · exact ih
    · rw [← ih]; funext i; simp [sp_up]
theorem sp_okS.start (hk : sp_okL L E) : sp_okS L (sp_start L) 0 := by
  refine ⟨by simpa [sp_start] using hk.2.2.2.2.2.1, by simp [sp_start], fun c => ?_, fun p => ?_, fun p hp => ?_, fun c _ => ?_, fun c e p _ hb => ?_⟩
  · simp [sp_start]; exact Nat.pow_pos (by decide)
  · have := hk.2.2.2.2.2.2.2.1 p
    simp only [sp_start]
    split <;> simp at * <;> split <;> omega
  · simp only [sp_start] at hp ⊢; simp at hp ⊢; omega
  · simp [sp_start]
  · simp [sp_start] at hb
end SPI
