/-! what is done by hand: the specification, and the class's State -/
/-- an int as a place below n -/
def sp_ix (n : Nat) (x : Int32) : Option Nat := if 0 ≤ x ∧ x < nI n then some x.toNatClampNeg else none
theorem sp_ix_some {n c : Nat} {x : Int32} (hn : n < 2 ^ 31) : sp_ix n x = some c ↔ c < n ∧ x = nI c := by
  unfold sp_ix
  constructor
  · intro h
    split at h
    · rename_i h1
      have h2 : ¬ x < 0 := by rw [fa_lt]; have := h1.1; rw [fa_le] at this; omega
      obtain ⟨j, hj, rfl⟩ := nI_of h2
      rw [nI_clamp hj] at h
      cases h
      exact ⟨(nI_ltI hj hn).mp h1.2, rfl⟩
    · cases h
  · rintro ⟨h1, rfl⟩
    rw [if_pos ⟨nI_pos' (by omega), nI_lt h1 hn⟩, nI_clamp (by omega)]
theorem sp_ix_none {n : Nat} {x : Int32} (hn : n < 2 ^ 31) : sp_ix n x = none ↔ ∀ c, c < n → x ≠ nI c := by
  constructor
  · intro h c hc e
    have := (sp_ix_some hn).mpr ⟨hc, e⟩
    rw [h] at this; cases this
  · intro h
    cases h1 : sp_ix n x with
    | none => rfl
    | some c =>
      obtain ⟨a, b⟩ := (sp_ix_some hn).mp h1
      exact absurd b (h c a)
theorem sp_ix_nI {n c : Nat} (hn : n < 2 ^ 31) (hc : c < n) : sp_ix n (nI c) = some c := (sp_ix_some hn).mpr ⟨hc, rfl⟩
theorem sp_ix_dec {n : Nat} {x : Int32} (hn : n < 2 ^ 31) : decide (∃ c, c < n ∧ x = nI c) = (sp_ix n x).isSome := by
  cases h : sp_ix n x with
  | none =>
    rw [sp_ix_none hn] at h
    rw [decide_eq_false]; · rfl
    rintro ⟨c, h1, h2⟩; exact h c h1 h2
  | some c =>
    rw [sp_ix_some hn] at h
    rw [decide_eq_true]; · rfl
    exact ⟨c, h.1, h.2⟩
def sp_take (L s : sp_N) (x : Int32) : Option sp_N := (sp_ix (L 4 0) x).bind (fun c => if s 2 c = 0 then none else some (sp_up s 2 c 0))
def sp_hang (L s : sp_N) (x b : Int32) : Option sp_N := (sp_ix (L 4 0) x).bind (fun c => (sp_ix 256 b).bind (fun n => if sp_may L s c n then some (sp_up s 2 c n) else none))
def sp_wash (L s : sp_N) (x : Int32) : Option (Nat × sp_N) := (sp_ix (L 4 0) x).bind (fun c => if s 2 c = 0 then some (s 1 c, sp_up (sp_up s 1 c 0) 0 c 9) else none)
def sp_buy (s : sp_N) (g : Int32) : Option sp_N := (sp_ix 10 g).bind (fun n => if 0 < n ∧ s 4 0 < 8 then some (sp_up (sp_up s 3 (s 4 0) n) 4 0 (s 4 0 + 1)) else none)
section SPH
variable {L s t : sp_N} {E : sp_E} {h c : Nat}
theorem sp_okS.take {x : Int32} (hk : sp_okL L E) (ho : sp_okS L s h) (ht : sp_take L s x = some t) : sp_okS L t h := by
  have h6 := hk.1
  unfold sp_take at ht
  cases h1 : sp_ix (L 4 0) x with
  | none => rw [h1] at ht; cases ht
  | some c =>
    rw [h1] at ht
    simp only [Option.bind_some] at ht
    split at ht
    · cases ht
    · cases ht
      exact ho.zero ((sp_ix_some (by omega)).mp h1).1
theorem sp_free_bit (s : sp_N) (p : Nat) : (sp_free s).testBit p = (decide (p < s 4 0) && (decide (0 < s 3 p) && (sp_by s p).isNone)) := sp_mk_bit _ _ _
theorem sp_sub_bits {a b : Nat} (h : a ^^^ (a &&& b) = 0) {i : Nat} (hi : a.testBit i = true) : b.testBit i = true := by
  have h1 : (a ^^^ (a &&& b)).testBit i = false := by rw [h]; simp
  rw [Nat.testBit_xor, Nat.testBit_and, hi] at h1
  cases hb : b.testBit i with
  | true => rfl
  | false => rw [hb] at h1; cases h1
theorem sp_okS.hang {x b : Int32} (hk : sp_okL L E) (ho : sp_okS L s h) (ht : sp_hang L s x b = some t) : sp_okS L t h := by
  have h6 := hk.1
  unfold sp_hang at ht
  cases h1 : sp_ix (L 4 0) x with
  | none => rw [h1] at ht; cases ht
  | some c =>
    rw [h1] at ht
    cases h2 : sp_ix 256 b with
    | none => rw [h2] at ht; cases ht
    | some n =>
      rw [h2] at ht
      simp only [Option.bind_some] at ht
      split at ht
      · rename_i hm
        cases ht
        have hc := ((sp_ix_some (by omega)).mp h1).1
        unfold sp_may at hm
        simp only [Bool.and_eq_true, decide_eq_true_eq] at hm
        have hb : ∀ i, n.testBit i = true → i < s 4 0 ∧ (sp_by s i).isNone = true := by
          intro i hi
          have := sp_sub_bits hm.2.1 hi
          rw [sp_free_bit, Bool.and_eq_true, Bool.and_eq_true, decide_eq_true_eq] at this
          exact ⟨this.1, this.2.2⟩
        refine ho.held ?_ ?_ hc
        · apply Nat.lt_pow_two_of_testBit
          intro i hi
          cases hx : n.testBit i with
          | false => rfl
          | true => have := (hb i hx).1; omega
        · intro e p he hp
          by_cases h5 : e < 6
          · exact sp_by_none.mp (hb p hp).2 e h5
          · rw [(ho.2.2.2.2.2.1 e (by omega)).2.2]; simp
      · cases ht
theorem sp_okS.wash {x : Int32} {k : Nat} (hk : sp_okL L E) (ho : sp_okS L s h) (ht : sp_wash L s x = some (k, t)) : sp_okS L t h := by
  have h6 := hk.1
  unfold sp_wash at ht
  cases h1 : sp_ix (L 4 0) x with
  | none => rw [h1] at ht; cases ht
  | some c =>
    rw [h1] at ht
    simp only [Option.bind_some] at ht
    split at ht
    · cases ht
      have hc := ((sp_ix_some (by omega)).mp h1).1
      exact (ho.stain (by omega) hc).wet (by omega) hc
    · cases ht
theorem sp_okS.buy {g : Int32} (ho : sp_okS L s h) (ht : sp_buy s g = some t) : sp_okS L t h := by
  unfold sp_buy at ht
  cases h1 : sp_ix 10 g with
  | none => rw [h1] at ht; cases ht
  | some n =>
    rw [h1] at ht
    simp only [Option.bind_some] at ht
    split at ht
    · rename_i hn
      cases ht
      have hn9 := ((sp_ix_some (by omega)).mp h1).1
      obtain ⟨o1, o2, o3, o4, o5, o6, o7⟩ := ho
      refine ⟨by simp [sp_up]; omega, by simpa [sp_up] using o2, fun e => ?_, fun p => ?_, fun p hp => ?_, fun e he => ?_, fun e f p hce hb => ?_⟩
      · have := o3 e
        simp [sp_up]
        refine ⟨this.1, this.2.1, Nat.lt_of_lt_of_le this.2.2 (Nat.pow_le_pow_right (by decide) (by omega))⟩
      · have := o4 p
        simp only [sp_up]
        simp
        split <;> omega
      · have hp' : s 4 0 + 1 ≤ p := by simpa [sp_up] using hp
        simp only [sp_up]
        simp [show p ≠ s 4 0 by omega]
        exact o5 p (by omega)
      · simpa [sp_up] using o6 e he
      · simp only [sp_up] at hb ⊢; simp at hb ⊢; exact o7 e f p hce hb
    · cases ht
end SPH
section PGC
variable {S : pg_S} {Λ : pg_L} {d l a h : Nat} {M : pg_M} {L s : sp_N} {E : sp_E}
theorem rc_has' {x : Int32} (hL : pg_isX5 Λ l) (hl : rc_L M l L E) (hk : sp_okL L E) : pg_Ev S Λ YX5_has d [.ref l, .int x] M (fun r M' => ∃ v, r = some (.int v) ∧ (v = b2i (sp_ix (L 4 0) x).isSome ∧ M' = M)) := by
  have := rc_has (S := S) (d := d) (x := x) hL hl hk
  rw [sp_ix_dec (by have := hk.1; omega)] at this
  exact this
theorem rc_takeIn {x : Int32} (hA : pg_isX9 Λ a) (hL : pg_isX5 Λ l) (hs : rc_S M a s) (hl : rc_L M l L E) (hk : sp_okL L E) (ho : sp_okS L s h) : pg_Ev S Λ YX9_takeIn (d + 1) [.ref a, .ref l, .int x] M (fun r M' => ∃ v, r = some (.int v) ∧ (v = b2i (sp_take L s x).isSome ∧ rc_S M' a ((sp_take L s x).getD s) ∧ pg_fr [a + 3] M M')) := by
  have h6 := hk.1
  cases h1 : sp_ix (L 4 0) x with
  | none =>
    have ht : sp_take L s x = none := by unfold sp_take; rw [h1]; rfl
    rw [ht]
    refine oX9_takeIn (sX9_takeIn_0 (Q0 := fun v M' => v = 0 ∧ M' = M) hL hA ?_ ?_ ?_ ?_ ?_)
    · have := rc_has' (S := S) (d := d) (x := x) hL hl hk
      rw [h1] at this
      exact this
    · rintro x1 M1 ⟨rfl, rfl⟩ _; exact ⟨_, rfl, rfl, hs, pg_fr.rfl'⟩
    · rintro x1 M1 ⟨rfl, rfl⟩ c; exact absurd rfl c
    · rintro x1 M1 ⟨rfl, rfl⟩ c; exact absurd rfl c
    · rintro x1 M1 ⟨rfl, rfl⟩ c; exact absurd rfl c
  | some c =>
    obtain ⟨hc, rfl⟩ := (sp_ix_some (by omega)).mp h1
    have hcl : (nI c).toNatClampNeg = c := nI_clamp (by omega)
    have h8 := sp_lt8 (c := c) ho
    have hq := (hs.2.2.1 c (by omega)).2.2
    refine oX9_takeIn (sX9_takeIn_0 (Q0 := fun v M' => v = 1 ∧ M' = M) hL hA ?_ ?_ ?_ ?_ ?_)
    · have := rc_has' (S := S) (d := d) (x := nI c) hL hl hk
      rw [h1] at this
      exact this
    · rintro x1 M1 ⟨rfl, rfl⟩ c; exact absurd c (by decide)
    · rintro x1 M1 ⟨rfl, rfl⟩ _; exact vp_in_nI (by omega) (by decide)
    · rintro x1 M1 ⟨rfl, rfl⟩ _ c2
      rw [hcl, hq, ← nI_0, nI_eq (by omega) (by omega)] at c2
      have ht : sp_take L s (nI c) = some (sp_up s 2 c 0) := by unfold sp_take; rw [h1]; simp [c2]
      rw [ht, hcl]
      exact ⟨_, rfl, rfl, hs.w2, pg_fr.si (by simp)⟩
    · rintro x1 M1 ⟨rfl, rfl⟩ _ c2
      rw [hcl, hq, ← nI_0, nI_eq (by omega) (by omega)] at c2
      have ht : sp_take L s (nI c) = none := by unfold sp_take; rw [h1]; simp [c2]
      rw [ht]
      exact ⟨_, rfl, rfl, hs, pg_fr.rfl'⟩
theorem rc_washOut {x : Int32} (hA : pg_isX9 Λ a) (hL : pg_isX5 Λ l) (hs : rc_S M a s) (hl : rc_L M l L E) (hk : sp_okL L E) (ho : sp_okS L s h) : pg_Ev S Λ YX9_washOut (d + 1) [.ref a, .ref l, .int x] M (fun r M' => ∃ v, r = some (.int v) ∧ (v = ((sp_wash L s x).map (fun q => nI q.1)).getD (-1) ∧ rc_S M' a (((sp_wash L s x).map (fun q => q.2)).getD s) ∧ pg_fr [a + 1, a + 2] M M')) := by
  have h6 := hk.1
  cases h1 : sp_ix (L 4 0) x with
  | none =>
    have ht : sp_wash L s x = none := by unfold sp_wash; rw [h1]; rfl
    rw [ht]
    refine oX9_washOut (sX9_washOut_0 (Q0 := fun v M' => v = 0 ∧ M' = M) hL hA ?_ ?_ ?_ ?_ ?_)
    · have := rc_has' (S := S) (d := d) (x := x) hL hl hk
      rw [h1] at this
      exact this
    · rintro x1 M1 ⟨rfl, rfl⟩ _; exact ⟨_, rfl, rfl, hs, pg_fr.rfl'⟩
    · rintro x1 M1 ⟨rfl, rfl⟩ c; exact absurd rfl c
    · rintro x1 M1 ⟨rfl, rfl⟩ c; exact absurd rfl c
    · rintro x1 M1 ⟨rfl, rfl⟩ c; exact absurd rfl c
  | some c =>
    obtain ⟨hc, rfl⟩ := (sp_ix_some (by omega)).mp h1
    have hcl : (nI c).toNatClampNeg = c := nI_clamp (by omega)
    have h8 := sp_lt8 (c := c) ho
    have hq := (hs.2.2.1 c (by omega)).2.2
    refine oX9_washOut (sX9_washOut_0 (Q0 := fun v M' => v = 1 ∧ M' = M) hL hA ?_ ?_ ?_ ?_ ?_)
    · have := rc_has' (S := S) (d := d) (x := nI c) hL hl hk
      rw [h1] at this
      exact this
    · rintro x1 M1 ⟨rfl, rfl⟩ c; exact absurd c (by decide)
    · rintro x1 M1 ⟨rfl, rfl⟩ _; exact vp_in_nI (by omega) (by decide)
    · rintro x1 M1 ⟨rfl, rfl⟩ _ c2
      rw [hcl, hq, ← nI_0, nI_eq (by omega) (by omega)] at c2
      have ht : sp_wash L s (nI c) = some (s 1 c, sp_up (sp_up s 1 c 0) 0 c 9) := by unfold sp_wash; rw [h1]; simp [c2]
      rw [ht, hcl]
      exact ⟨_, rfl, (hs.2.2.1 c (by omega)).2.1, (hs.w1 (c := c) (v := 0)).w0 (c := c) (v := 9), (pg_fr.si (by simp)).trans (pg_fr.si (by simp))⟩
    · rintro x1 M1 ⟨rfl, rfl⟩ _ c2
      rw [hcl, hq, ← nI_0, nI_eq (by omega) (by omega)] at c2
      have ht : sp_wash L s (nI c) = none := by unfold sp_wash; rw [h1]; simp [c2]
      rw [ht]
      exact ⟨_, rfl, rfl, hs, pg_fr.rfl'⟩
theorem rc_addPeg {g : Int32} (hA : pg_isX9 Λ a) (hs : rc_S M a s) (ho : sp_okS L s h) : pg_Ev S Λ YX9_addPeg d [.ref a, .int g] M (fun r M' => ∃ v, r = some (.int v) ∧ (v = (if (sp_buy s g).isSome then nI (s 4 0) else -1) ∧ rc_S M' a ((sp_buy s g).getD s) ∧ pg_fr [a, a + 4] M M')) := by
  have h8 := ho.1
  cases h1 : sp_ix 10 g with
  | none =>
    have ht : sp_buy s g = none := by unfold sp_buy; rw [h1]; rfl
    rw [ht]
    rw [sp_ix_none (by decide)] at h1
    refine oX9_addPeg (sX9_addPeg_0 hA (fun _ => ⟨_, rfl, rfl, hs, pg_fr.rfl'⟩) (fun _ _ => ⟨_, rfl, rfl, hs, pg_fr.rfl'⟩) (fun c1 c2 => ?_) (fun c1 c2 => ?_) (fun _ _ _ => ⟨_, rfl, rfl, hs, pg_fr.rfl'⟩))
    all_goals
      have hg : ¬ g < 0 := by rw [fa_lt] at c1 ⊢; have e1 : (1 : Int32).toInt = 1 := rfl; have e2 : (0 : Int32).toInt = 0 := rfl; omega
      obtain ⟨j, hj, rfl⟩ := nI_of hg
      rw [show (9 : Int32) = nI 9 from rfl, nI_ltI (by omega) hj] at c2
      exact absurd rfl (h1 j (by omega))
  | some n =>
    obtain ⟨hn, rfl⟩ := (sp_ix_some (by decide)).mp h1
    have hcl : (M.1 a 4).toNatClampNeg = s 4 0 := by rw [hs.1]; exact nI_clamp (by omega)
    have hno : (¬ (0 < n ∧ s 4 0 < 8)) → sp_buy s (nI n) = none := fun q => by unfold sp_buy; rw [h1]; simp only [Option.bind_some]; rw [if_neg q]
    refine oX9_addPeg (sX9_addPeg_0 hA (fun c1 => ?_) (fun _ c2 => ?_) (fun _ _ c3 => ?_) (fun c1 _ c3 N1 hN => ?_) (fun _ _ c3 => ?_))
    · rw [show (1 : Int32) = nI 1 from rfl, nI_ltI (by omega) (by omega)] at c1
      rw [hno (by omega)]
      exact ⟨_, rfl, rfl, hs, pg_fr.rfl'⟩
    · rw [show (9 : Int32) = nI 9 from rfl, nI_ltI (by omega) (by omega)] at c2
      omega
    · rw [hs.1, show (8 : Int32) = nI 8 from rfl, nI_ltI (by omega) (by omega)] at c3
      rw [hs.1]
      exact vp_in_nI c3 (by decide)
    · rw [show (1 : Int32) = nI 1 from rfl, nI_ltI (by omega) (by omega)] at c1
      rw [hs.1, show (8 : Int32) = nI 8 from rfl, nI_ltI (by omega) (by omega)] at c3
      have ht : sp_buy s (nI n) = some (sp_up (sp_up s 3 (s 4 0) n) 4 0 (s 4 0 + 1)) := by unfold sp_buy; rw [h1]; simp only [Option.bind_some]; rw [if_pos ⟨by omega, c3⟩]
      rw [hcl, pg_si_ne (by omega), hs.1, nI_1] at hN
      subst hN
      rw [ht]
      refine ⟨_, rfl, ?_, ?_, (pg_fr.si (by simp)).trans (pg_fr.si (by simp))⟩
      · rw [pg_si_at, pk_us, nI_pred]; rfl
      · obtain ⟨s1, s2, s3, s4⟩ := hs
        refine ⟨by rw [pg_si_at, pk_us]; simp [sp_up], by rw [pg_si_at, pk_un (by decide), pg_si_ne (by omega)]; simpa [sp_up] using s2, fun e he => ?_, fun p hp => ?_⟩
        · rw [pg_si_ne (by omega), pg_si_ne (by omega), pg_si_ne (by omega), pg_si_ne (by omega), pg_si_ne (by omega), pg_si_ne (by omega)]
          simpa [sp_up] using s3 e he
        · have hp' : p < s 4 0 + 1 := by simpa [sp_up] using hp
          rw [pg_si_ne (by omega), pg_si_at]
          by_cases h5 : p = s 4 0
          · subst h5; rw [pk_us]; simp [sp_up]
          · rw [pk_un h5, s4 p (by omega)]; simp [sp_up, h5]
    · rw [hs.1, show (8 : Int32) = nI 8 from rfl, nI_ltI (by omega) (by omega)] at c3
      rw [hno (by omega)]
      exact ⟨_, rfl, rfl, hs, pg_fr.rfl'⟩
end PGC
