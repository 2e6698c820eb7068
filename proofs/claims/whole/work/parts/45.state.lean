/-! the class: State: hangUp, begin, copyFrom, firstFree, passAlone -/
theorem nb_small {x : Int32} {f : Nat} (hf : f < 256) (h : x &&& (nI f ^^^ (-1)) = 0) : ∃ n, n < 256 ∧ x = nI n := by
  have h1 : x &&& 255 = x := by
    apply b_ext
    intro i hi
    rw [b_and, b_255]
    by_cases h8 : i < 8
    · simp [h8]
    · have h2 : bt (x &&& (nI f ^^^ (-1))) i = bt 0 i := by rw [h]
      rw [b_and, b_xor, b_m1 i hi, b_0, nb_bt hi] at h2
      have h3 : f.testBit i = false := Nat.testBit_lt_two_pow (Nat.lt_of_lt_of_le hf (Nat.pow_le_pow_right (n := 2) (by decide) (show 8 ≤ i by omega)))
      rw [h3] at h2
      simp at h2
      simp [h2]
  obtain ⟨j, hj, e⟩ := pk_andE x (m := 255) 8 (by decide)
  exact ⟨j, hj, by rw [← h1, e]⟩
theorem sp_free_lt {L s : sp_N} {h : Nat} (ho : sp_okS L s h) : sp_free s < 256 := by
  have h1 := sp_mk_lt (fun p => decide (0 < s 3 p) && (sp_by s p).isNone) (s 4 0)
  have h2 : 2 ^ s 4 0 ≤ 2 ^ 8 := Nat.pow_le_pow_right (by decide) ho.1
  unfold sp_free
  omega
theorem pg_sa_at (M : pg_M) (a : Nat) (f : Nat → Int32) : (pg_sa M a f).1 a = f := by simp [pg_sa]
theorem pg_sa_ne {M : pg_M} {a b : Nat} {f : Nat → Int32} (h : b ≠ a) : (pg_sa M a f).1 b = M.1 b := by simp [pg_sa, h]
theorem pg_cpy {f g : Nat → Int32} {n : Int32} {k j : Nat} (hn : n.toNatClampNeg = k) (h : j < k) : va_cpy f g (0 : Int32).toNatClampNeg (0 : Int32).toNatClampNeg n.toNatClampNeg j = f j := by
  rw [hn]
  show va_cpy f g 0 0 k j = f j
  rw [pk_cpy_in (Nat.zero_le _) (by omega)]
  simp
def sp_low (x : Nat) : Nat := x ^^^ (x &&& (x - 1))
def sp_ffs : Nat → Nat × Nat → Nat × Nat
  | 0, q => q
  | k + 1, q => sp_ffs k (q.1 &&& (q.1 - 1), q.2 ||| sp_low q.1)
/-- the first so many of a set, or none -/
def sp_ff (free many : Nat) : Nat := if sp_pc (sp_ffs many (free, 0)).2 = many then (sp_ffs many (free, 0)).2 else 0
set_option maxRecDepth 10000 in
theorem sp_low_I : ∀ x, x < 256 → nI x &&& (-(nI x)) = nI (sp_low x) := fun x hx => co_dec (N := 256) (P := fun x => nI x &&& (-(nI x)) = nI (sp_low x)) (by decide +kernel) hx
set_option maxRecDepth 10000 in
theorem sp_and_I : ∀ x, x < 256 → nI x &&& (nI x - 1) = nI (x &&& (x - 1)) := fun x hx => co_dec (N := 256) (P := fun x => nI x &&& (nI x - 1) = nI (x &&& (x - 1))) (by decide +kernel) hx
theorem sp_low_lt {x : Nat} (h : x < 256) : sp_low x < 256 := by
  unfold sp_low
  exact Nat.xor_lt_two_pow (n := 8) h (Nat.lt_of_le_of_lt Nat.and_le_left h)
def sp_alone (L : sp_N) (E : sp_E) (s : sp_N) (c k : Nat) : sp_N × Bool :=
  if (sp_hit L E s c (sp_wind L (s 4 1 + k))).2 then sp_hit L E s c (sp_wind L (s 4 1 + k))
  else (sp_up (sp_hit L E s c (sp_wind L (s 4 1 + k))).1 0 c (sp_dry L E c ((sp_hit L E s c (sp_wind L (s 4 1 + k))).1 0 c) (sp_wind L (s 4 1 + k))), false)
section PGC
variable {S : pg_S} {Λ : pg_L} {d l a h : Nat} {M : pg_M} {L s : sp_N} {E : sp_E}
theorem rc_hangUp {x b : Int32} (hA : pg_isX9 Λ a) (hL : pg_isX5 Λ l) (hs : rc_S M a s) (hl : rc_L M l L E) (hk : sp_okL L E) (ho : sp_okS L s h) : pg_Ev S Λ YX9_hangUp (d + 3) [.ref a, .ref l, .int x, .int b] M (fun r M' => ∃ v, r = some (.int v) ∧ (v = b2i (sp_hang L s x b).isSome ∧ rc_S M' a ((sp_hang L s x b).getD s) ∧ pg_fr [a + 3] M M')) := by
  have h6 := hk.1
  have same : sp_hang L s x b = none → ∃ v, (some (Value.int 0) = some (Value.int v)) ∧ (v = b2i (sp_hang L s x b).isSome ∧ rc_S M a ((sp_hang L s x b).getD s) ∧ pg_fr [a + 3] M M) := fun q => by
    rw [q]; exact ⟨0, rfl, rfl, hs, pg_fr.rfl'⟩
  cases h1 : sp_ix (L 4 0) x with
  | none =>
    have ht : sp_hang L s x b = none := by unfold sp_hang; rw [h1]; rfl
    refine oX9_hangUp (sX9_hangUp_0 (Q0 := fun v M' => v = 0 ∧ M' = M) (Q1 := fun _ _ => True) (Q2 := fun _ _ => True) (Q3 := fun _ _ => True) (Q4 := fun _ _ => True) (Q5 := fun _ _ => True) (Q6 := fun _ _ => True) hL hA ?_ ?_ ?_ ?_ ?_ ?_ ?_ ?_ ?_ ?_ ?_ ?_ ?_ ?_ ?_ ?_)
    · have := rc_has' (S := S) (d := d + 2) (x := x) hL hl hk
      rw [h1] at this
      exact this
    · rintro x1 M1 ⟨rfl, rfl⟩ _; exact same ht
    all_goals (rintro x1 M1 ⟨rfl, rfl⟩ c; exact absurd rfl c)
  | some c =>
    obtain ⟨hc, rfl⟩ := (sp_ix_some (by omega)).mp h1
    have hcl : (nI c).toNatClampNeg = c := nI_clamp (by omega)
    have h8 := sp_lt8 (c := c) ho
    have hf8 := sp_free_lt ho
    have hq := (hs.2.2.1 c (by omega)).2.2
    have hn4 : sp_needs L c ≤ 4 := by unfold sp_needs; split <;> omega
    have hh : sp_hang L s (nI c) b = (sp_ix 256 b).bind (fun n => if sp_may L s c n then some (sp_up s 2 c n) else none) := by unfold sp_hang; rw [h1]; rfl
    have hno : (∀ n, n < 256 → b = nI n → sp_may L s c n = false) → sp_hang L s (nI c) b = none := by
      intro q
      rw [hh]
      cases h2 : sp_ix 256 b with
      | none => rfl
      | some n =>
        obtain ⟨g1, g2⟩ := (sp_ix_some (by decide)).mp h2
        simp [q n g1 g2]
    refine oX9_hangUp (sX9_hangUp_0 (Q0 := fun v M' => v = 1 ∧ M' = M) (Q1 := fun v M' => v = nI (sp_free s) ∧ M' = M) (Q2 := fun v M' => (∀ n, n < 256 → b = nI n → v = nI (sp_roomBy L c (sp_pc n))) ∧ M' = M) (Q3 := fun v M' => v = sp_left L s ∧ M' = M) (Q4 := fun v M' => v = nI (sp_needs L c) ∧ M' = M) (Q5 := fun v M' => (∀ n, n < 256 → b = nI n → v = nI (sp_roomBy L c (sp_pc n))) ∧ M' = M) (Q6 := fun v M' => v = sp_left L s ∧ M' = M) hL hA ?_ ?_ ?_ ?_ ?_ ?_ ?_ ?_ ?_ ?_ ?_ ?_ ?_ ?_ ?_ ?_)
    · have := rc_has' (S := S) (d := d + 2) (x := nI c) hL hl hk
      rw [h1] at this
      exact this
    · rintro x1 M1 ⟨rfl, rfl⟩ c; exact absurd c (by decide)
    · rintro x1 M1 ⟨rfl, rfl⟩ _; exact vp_in_nI (by omega) (by decide)
    · rintro x1 M1 ⟨rfl, rfl⟩ _ c2
      rw [hcl, hq, ← nI_0, nI_eq (by omega) (by omega)] at c2
      exact same (hno (fun n _ _ => by simp [sp_may, c2]))
    · rintro x1 M1 ⟨rfl, rfl⟩ _ c2
      exact rc_freePegs hA hs ho
    · rintro x1 M1 ⟨rfl, rfl⟩ _ c2 x2 M2 ⟨rfl, rfl⟩ c3 c4
      obtain ⟨n, hn, rfl⟩ := nb_small hf8 c3
      rw [sp_pc_small hn]
      exact pg_Ev.imp (fun r M' q => by obtain ⟨v, e1, e2, e3⟩ := q; exact ⟨v, e1, fun k hk1 e => by rw [(nI_eq (by omega) (by omega)).mp e] at e2; exact e2, e3⟩) (rc_roomBy hc (by have := sp_pc_le n; omega) hL hl hk)
    · rintro x1 M1 ⟨rfl, rfl⟩ _ c2 x2 M2 ⟨rfl, rfl⟩ c3 c4 x3 M3 ⟨_, rfl⟩
      exact rc_roomLeft hA hL hs hl hk ho
    · rintro x1 M1 ⟨rfl, rfl⟩ _ c2 x2 M2 ⟨rfl, rfl⟩ c3 c4 x3 M3 ⟨e3, rfl⟩ x4 M4 ⟨rfl, rfl⟩ c5
      obtain ⟨n, hn, rfl⟩ := nb_small hf8 c3
      have hp := sp_pc_le n
      rw [e3 n hn rfl] at c5
      rw [hcl, hq, ← nI_0, nI_eq (by omega) (by omega)] at c2
      rw [nb_andn, ← nI_0, nI_eq (Nat.xor_lt_two_pow (n := 31) (by omega) (Nat.lt_of_le_of_lt Nat.and_le_left (by omega))) (by omega)] at c3
      rw [sp_pc_small hn, show (1 : Int32) = nI 1 from rfl, nI_eq (by omega) (by omega)] at c4
      have hm : sp_may L s c n = true := by simp only [sp_may, c2, c3, c4, c5, decide_true, Bool.true_and, Bool.true_or]; rw [c4] at c5; simp [c5]
      have ht : sp_hang L s (nI c) (nI n) = some (sp_up s 2 c n) := by rw [hh, sp_ix_nI (by decide) hn]; simp [hm]
      rw [ht, hcl]
      exact ⟨_, rfl, rfl, hs.w2, pg_fr.si (by simp)⟩
    · rintro x1 M1 ⟨rfl, rfl⟩ _ c2 x2 M2 ⟨rfl, rfl⟩ c3 c4 x3 M3 ⟨e3, rfl⟩ x4 M4 ⟨rfl, rfl⟩ c5
      exact same (hno (fun n hn e => by rw [e3 n hn e] at c5; simp [sp_may, c5]))
    · rintro x1 M1 ⟨rfl, rfl⟩ _ c2 x2 M2 ⟨rfl, rfl⟩ c3 c4
      exact rc_pegsFor hc hL hl hk
    · rintro x1 M1 ⟨rfl, rfl⟩ _ c2 x2 M2 ⟨rfl, rfl⟩ c3 c4 x5 M5 ⟨rfl, rfl⟩ c5
      refine same (hno (fun n hn e => ?_))
      subst e
      have hp := sp_pc_le n
      rw [sp_pc_small hn, show (1 : Int32) = nI 1 from rfl, nI_eq (by omega) (by omega)] at c4
      rw [sp_pc_small hn, nI_eq (by omega) (by omega)] at c5
      simp [sp_may, c4, c5]
    · rintro x1 M1 ⟨rfl, rfl⟩ _ c2 x2 M2 ⟨rfl, rfl⟩ c3 c4 x5 M5 ⟨rfl, rfl⟩ c5
      obtain ⟨n, hn, rfl⟩ := nb_small hf8 c3
      rw [sp_pc_small hn]
      exact pg_Ev.imp (fun r M' q => by obtain ⟨v, e1, e2, e3⟩ := q; exact ⟨v, e1, fun k hk1 e => by rw [(nI_eq (by omega) (by omega)).mp e] at e2; exact e2, e3⟩) (rc_roomBy hc (by have := sp_pc_le n; omega) hL hl hk)
    · rintro x1 M1 ⟨rfl, rfl⟩ _ c2 x2 M2 ⟨rfl, rfl⟩ c3 c4 x5 M5 ⟨rfl, rfl⟩ c5 x6 M6 ⟨_, rfl⟩
      exact rc_roomLeft hA hL hs hl hk ho
    · rintro x1 M1 ⟨rfl, rfl⟩ _ c2 x2 M2 ⟨rfl, rfl⟩ c3 c4 x5 M5 ⟨rfl, rfl⟩ c5 x6 M6 ⟨e6, rfl⟩ x7 M7 ⟨rfl, rfl⟩ c7
      obtain ⟨n, hn, rfl⟩ := nb_small hf8 c3
      have hp := sp_pc_le n
      rw [e6 n hn rfl] at c7
      rw [hcl, hq, ← nI_0, nI_eq (by omega) (by omega)] at c2
      rw [nb_andn, ← nI_0, nI_eq (Nat.xor_lt_two_pow (n := 31) (by omega) (Nat.lt_of_le_of_lt Nat.and_le_left (by omega))) (by omega)] at c3
      rw [sp_pc_small hn, nI_eq (by omega) (by omega)] at c5
      have hm : sp_may L s c n = true := by simp only [sp_may, c2, c3, c7, decide_true, Bool.true_and, Bool.and_true]; rw [c5]; simp
      have ht : sp_hang L s (nI c) (nI n) = some (sp_up s 2 c n) := by rw [hh, sp_ix_nI (by decide) hn]; simp [hm]
      rw [ht, hcl]
      exact ⟨_, rfl, rfl, hs.w2, pg_fr.si (by simp)⟩
    · rintro x1 M1 ⟨rfl, rfl⟩ _ c2 x2 M2 ⟨rfl, rfl⟩ c3 c4 x5 M5 ⟨rfl, rfl⟩ c5 x6 M6 ⟨e6, rfl⟩ x7 M7 ⟨rfl, rfl⟩ c7
      exact same (hno (fun n hn e => by rw [e6 n hn e] at c7; simp [sp_may, c7]))
    · rintro x1 M1 ⟨rfl, rfl⟩ _ c2 x2 M2 ⟨rfl, rfl⟩ c3
      refine same (hno (fun n hn e => ?_))
      subst e
      rw [nb_andn, ← nI_0, nI_eq (Nat.xor_lt_two_pow (n := 31) (by omega) (Nat.lt_of_le_of_lt Nat.and_le_left (by omega))) (by omega)] at c3
      simp [sp_may, c3]
theorem rc_begin (hA : pg_isX9 Λ a) (hL : pg_isX5 Λ l) (hl : rc_L M l L E) (hk : sp_okL L E) (hap : pg_apart a l) : pg_Ev S Λ YX9_begin (d + 1) [.ref a, .ref l] M (fun r M' => r = none ∧ (rc_S M' a (sp_start L) ∧ pg_fr [a, a + 1, a + 2, a + 3, a + 4] M M')) := by
  have h8 := hk.2.2.2.2.2.1
  have n7 : ∀ j, j < 5 → l + 7 ≠ a + j := fun j hj => by unfold pg_apart at hap; omega
  have n0 : ∀ j, j < 5 → l ≠ a + j := fun j hj => by unfold pg_apart at hap; omega
  refine oX9_begin (sX9_begin_0 hA hL (fun N1 hN1 N2 hN2 => ⟨rfl, ?_, ?_⟩))
  · have hp : N2.1 l 11 = nI (L 4 4) := by
      rw [hN2, pg_sa_ne (n0 4 (by omega)), pg_sa_ne (n0 3 (by omega)), hN1, pg_sa_ne (n0 2 (by omega)), pg_sa_ne (n0 1 (by omega))]
      exact hl.2.1
    rw [hp]
    refine ⟨by rw [pg_si_at, pk_un (by decide), pg_si_at, pk_us]; simp [sp_start], by rw [pg_si_at, pk_us]; simp [sp_start, nI_0], fun c hc => ?_, fun p hp1 => ?_⟩
    · rw [pg_si_ne (by omega), pg_si_ne (by omega), pg_si_ne (by omega), pg_si_ne (by omega), pg_si_ne (by omega), pg_si_ne (by omega), hN2, pg_sa_ne (by omega), pg_sa_ne (by omega), pg_sa_ne (by omega), pg_sa_ne (by omega), pg_sa_ne (by omega), pg_sa_at, hN1, pg_sa_ne (by omega), pg_sa_at, pg_sa_at]
      simp [sp_start, hc, nI_0]
    · have hp2 : p < L 4 4 := by simpa [sp_start] using hp1
      rw [pg_si_ne (by omega), pg_si_ne (by omega), hN2, pg_sa_at, pg_cpy (k := 8) rfl (by omega)]
      rw [pg_sa_ne (n7 3 (by omega)), hN1, pg_sa_ne (n7 2 (by omega)), pg_sa_ne (n7 1 (by omega))]
      rw [hl.2.2.2.2.2.2.2.2.1 p hp2]
      simp [sp_start, hp2]
  · rw [hN2, hN1]
    exact (((((pg_fr.sa (by simp)).trans (pg_fr.sa (by simp))).trans (pg_fr.sa (by simp))).trans (pg_fr.sa (by simp))).trans (pg_fr.si (by simp))).trans (pg_fr.si (by simp))
theorem rc_copyFrom {b : Nat} (hA : pg_isX9 Λ a) (hB : pg_isX9 Λ b) (hs : rc_S M b s) (ho : sp_okS L s h) (hap : a + 5 ≤ b ∨ b + 5 ≤ a) : pg_Ev S Λ YX9_copyFrom (d + 1) [.ref a, .ref b] M (fun r M' => r = none ∧ (rc_S M' a s ∧ pg_fr [a, a + 1, a + 2, a + 3, a + 4] M M')) := by
  have h8 := ho.1
  have nb : ∀ i j, i < 5 → j < 5 → b + i ≠ a + j := fun i j hi hj => by omega
  refine oX9_copyFrom (sX9_copyFrom_0 hB hA (fun N1 hN1 N2 hN2 N3 hN3 N4 hN4 => ⟨rfl, ?_, ?_⟩))
  · have n0 := nb 0 4 (by omega) (by omega)
    have q4 : N4.1 b = M.1 b := by rw [hN4, pg_sa_ne (by omega), hN3, pg_sa_ne (by omega), hN2, pg_sa_ne (by omega), hN1, pg_sa_ne (by omega)]
    rw [pg_si_ne (by omega), q4, hs.1, hs.2.1]
    have r1 : ∀ c, c < 6 → N1.1 (a + 1) c = M.1 (b + 1) c := fun c hc => by rw [hN1, pg_sa_at, pg_cpy (k := 6) rfl hc]
    have r2 : ∀ c, c < 6 → N2.1 (a + 2) c = M.1 (b + 2) c := fun c hc => by
      rw [hN2, pg_sa_at, pg_cpy (k := 6) rfl hc, hN1, pg_sa_ne (by omega)]
    have r3 : ∀ c, c < 6 → N3.1 (a + 3) c = M.1 (b + 3) c := fun c hc => by
      rw [hN3, pg_sa_at, pg_cpy (k := 6) rfl hc, hN2, pg_sa_ne (by omega), hN1, pg_sa_ne (by omega)]
    have r4 : ∀ p, p < 8 → N4.1 (a + 4) p = M.1 (b + 4) p := fun p hp => by
      rw [hN4, pg_sa_at, pg_cpy (k := 8) rfl hp, hN3, pg_sa_ne (by omega), hN2, pg_sa_ne (by omega), hN1, pg_sa_ne (by omega)]
    refine ⟨by rw [pg_si_at, pk_un (by decide), pg_si_at, pk_us], by rw [pg_si_at, pk_us], fun c hc => ?_, fun p hp => ?_⟩
    · rw [pg_si_ne (by omega), pg_si_ne (by omega), pg_si_ne (by omega), pg_si_ne (by omega), pg_si_ne (by omega), pg_si_ne (by omega)]
      have t1 : N4.1 (a + 1) = N1.1 (a + 1) := by rw [hN4, pg_sa_ne (by omega), hN3, pg_sa_ne (by omega), hN2, pg_sa_ne (by omega)]
      have t2 : N4.1 (a + 2) = N2.1 (a + 2) := by rw [hN4, pg_sa_ne (by omega), hN3, pg_sa_ne (by omega)]
      have t3 : N4.1 (a + 3) = N3.1 (a + 3) := by rw [hN4, pg_sa_ne (by omega)]
      rw [t1, t2, t3, r1 c hc, r2 c hc, r3 c hc]
      exact hs.2.2.1 c hc
    · rw [pg_si_ne (by omega), pg_si_ne (by omega), r4 p (by omega)]
      exact hs.2.2.2 p hp
  · rw [hN4, hN3, hN2, hN1]
    exact (((((pg_fr.sa (by simp)).trans (pg_fr.sa (by simp))).trans (pg_fr.sa (by simp))).trans (pg_fr.sa (by simp))).trans (pg_fr.si (by simp))).trans (pg_fr.si (by simp))
theorem rc_firstFree {many : Nat} (hm : many ≤ 4) (hA : pg_isX9 Λ a) (hs : rc_S M a s) (ho : sp_okS L s h) : pg_Ev S Λ YX9_firstFree (d + 2) [.ref a, .int (nI many)] M (fun r M' => ∃ v, r = some (.int v) ∧ (v = nI (sp_ff (sp_free s) many) ∧ M' = M)) := by
  have hf8 := sp_free_lt ho
  refine oX9_firstFree (sX9_firstFree_0 (Q0 := fun v M' => v = nI (sp_free s) ∧ M' = M) hA (rc_freePegs hA hs ho) ?_)
  rintro x1 M1 ⟨rfl, rfl⟩
  refine pg_loop (fun i (q : Nat × Nat) => pg_At S Λ YX9_firstFree (d + 2) 10 [(1, .int (nI many)), (2, .int (nI q.1)), (3, .int (nI q.2)), (4, .int (nI i))] [] M1 _) (fun i q => q.1 < 256 ∧ q.2 < 256 ∧ sp_ffs (many - i) q = sp_ffs many (sp_free s, 0)) many ?_ ?_ 0 (sp_free s, 0) (Nat.zero_le _) ⟨hf8, by omega, rfl⟩
  · rintro ⟨x, y⟩ ⟨hx, hy, he⟩
    simp only at hx hy he ⊢
    rw [Nat.sub_self] at he
    have he2 : y = (sp_ffs many (sp_free s, 0)).2 := by rw [← he]; rfl
    have hp := sp_pc_le y
    have c9 : nI many ≤ nI many := nI_le (Nat.le_refl _) (by omega)
    refine sX9_firstFree_10 (fun _ c => ?_) (fun _ c => ?_) (fun c => absurd c9 c)
    · rw [sp_pc_small hy, nI_eq (by omega) (by omega)] at c
      exact ⟨_, rfl, by unfold sp_ff; rw [← he2, if_neg c, nI_0], rfl⟩
    · rw [sp_pc_small hy, nI_eq (by omega) (by omega)] at c
      exact ⟨_, rfl, by unfold sp_ff; rw [← he2, if_pos c], rfl⟩
  · rintro i ⟨x, y⟩ hi ⟨hx, hy, he⟩ ih
    simp only at hx hy he ⊢
    have c9 : ¬ nI many ≤ nI i := nI_ge hi (by omega)
    refine sX9_firstFree_10 (fun c => absurd c c9) (fun c => absurd c c9) (fun _ => ?_)
    rw [sp_and_I x hx, sp_low_I x hx, fa_or, nI_1]
    refine ih (x &&& (x - 1), y ||| sp_low x) ⟨Nat.lt_of_le_of_lt Nat.and_le_left hx, Nat.or_lt_two_pow (n := 8) hy (sp_low_lt hx), ?_⟩
    rw [← he, show many - i = (many - (i + 1)) + 1 by omega]
    rfl
theorem rc_passAlone {c k : Nat} (hc : c < L 4 0) (hh : ¬ s 2 c = 0) (hk9 : s 4 1 + k < 2 ^ 31) (hA : pg_isX9 Λ a) (hL : pg_isX5 Λ l) (hs : rc_S M a s) (hl : rc_L M l L E) (hk : sp_okL L E) (ho : sp_okS L s h) (hap : pg_apart a l) : pg_Ev S Λ YX9_passAlone (d + 4) [.ref a, .ref l, .int (nI c), .int (nI k)] M (fun r M' => ∃ v, r = some (.int v) ∧ (v = b2i (sp_alone L E s c k).2 ∧ rc_S M' a (sp_alone L E s c k).1 ∧ pg_fr [a + 1, a + 2, a + 3, a + 4, l + 11, l + 14] M M')) := by
  have h6 := hk.1
  have hcl : (nI c).toNatClampNeg = c := nI_clamp (by omega)
  have lX : ∀ j, j < 15 → j ≠ 11 → j ≠ 14 → l + j ∉ [a + 1, a + 2, a + 3, a + 4, l + 11] := fun j h1 h2 h3 => by simp; unfold pg_apart at hap; omega
  have aX : ∀ j, j < 5 → a + j ∉ [l + 14] := fun j hj => by simp; unfold pg_apart at hap; omega
  have hsb : ∀ b, b ∈ [a + 1, a + 2, a + 3, a + 4, l + 11] → b ∈ [a + 1, a + 2, a + 3, a + 4, l + 11, l + 14] := fun b hb => by simp at hb ⊢; omega
  have hoh := ho.hit (E := E) (wind := sp_wind L (s 4 1 + k)) hc
  refine oX9_passAlone (sX9_passAlone_0 (Q0 := fun v M' => v = nI (sp_wind L (s 4 1 + k)) ∧ M' = M) (Q1 := fun v M' => v = b2i (sp_hit L E s c (sp_wind L (s 4 1 + k))).2 ∧ rc_S M' a (sp_hit L E s c (sp_wind L (s 4 1 + k))).1 ∧ pg_fr [a + 1, a + 2, a + 3, a + 4, l + 11] M M') (Q2 := fun v M' => v = nI (sp_dry L E c ((sp_hit L E s c (sp_wind L (s 4 1 + k))).1 0 c) (sp_wind L (s 4 1 + k))) ∧ rc_S M' a (sp_hit L E s c (sp_wind L (s 4 1 + k))).1 ∧ pg_fr [a + 1, a + 2, a + 3, a + 4, l + 11, l + 14] M M') hA hL ?_ ?_ ?_ ?_ ?_ ?_)
  · rw [hs.2.1, nI_add]; exact rc_windAt hk9 hL hl hk
  · rintro x1 M1 ⟨rfl, rfl⟩; exact rc_fallsBy hc hh hA hL hs hl hk ho hap
  · rintro x1 M1 ⟨rfl, rfl⟩ x2 M2 ⟨rfl, hs2, hf2⟩ c1; exact vp_in_nI (by omega) (by decide)
  · rintro x1 M1 ⟨rfl, rfl⟩ x2 M2 ⟨rfl, hs2, hf2⟩ c1
    rw [hcl, (hs2.2.2.1 c (by omega)).1]
    exact pg_Ev.imp (fun r M' q => by obtain ⟨v, e1, e2, e3⟩ := q; exact ⟨v, e1, e2, hs2.keep e3 aX, (hf2.mono hsb).trans (e3.mono (fun b hb => by simp at hb ⊢; omega))⟩) (rc_wetAfter hc (by have := (hoh.2.2.1 c).1; omega) hL (hl.keep hf2 lX) hk)
  · rintro x1 M1 ⟨rfl, rfl⟩ x2 M2 ⟨rfl, hs2, hf2⟩ c1 x3 M3 ⟨rfl, hs3, hf3⟩
    rw [hcl]
    have e1 : sp_alone L E s c k = (sp_up (sp_hit L E s c (sp_wind L (s 4 1 + k))).1 0 c (sp_dry L E c ((sp_hit L E s c (sp_wind L (s 4 1 + k))).1 0 c) (sp_wind L (s 4 1 + k))), false) := by unfold sp_alone; rw [b2i_0.mp c1]; rfl
    rw [e1]
    exact ⟨_, rfl, rfl, hs3.w0, hf3.trans (pg_fr.si (by simp))⟩
  · rintro x1 M1 ⟨rfl, rfl⟩ x2 M2 ⟨rfl, hs2, hf2⟩ c1
    have e0 : (sp_hit L E s c (sp_wind L (s 4 1 + k))).2 = true := ts_nf (fun q => c1 (b2i_0.mpr q))
    have e1 : sp_alone L E s c k = sp_hit L E s c (sp_wind L (s 4 1 + k)) := by unfold sp_alone; rw [e0]; rfl
    rw [e1]
    exact ⟨_, rfl, by rw [e0]; rfl, hs2, hf2.mono hsb⟩
end PGC
