/-! odds: the specification, and the reference's runs -/
/-- the pegs that still hold a cloth when each has lost w -/
def sp_live (s : sp_N) (c w : Nat) : Nat := sp_mk (fun p => (s 2 c).testBit p && decide (w < s 3 p)) 8
def sp_worn (L : sp_N) (E : sp_E) (s : sp_N) (c wet w wi : Nat) : Nat := if 2 * sp_pull L E c wet wi ≤ sp_grips s (s 2 c) w then w else w + 1
def sp_chs (L : sp_N) (E : sp_E) (s : sp_N) (c wet w wi : Nat) (f : Nat → Nat → Nat) : Nat := if sp_pull L E c wet wi ≤ sp_grips s (s 2 c) w ∧ ¬ sp_grips s (s 2 c) (sp_worn L E s c wet w wi) = 0 then f (sp_dry L E c wet wi) (sp_worn L E s c wet w wi) else 0
/-- of the runs of gusts (of ten each hour) so many in which a cloth hangs behind so many hours more -/
def sp_ch (L : sp_N) (E : sp_E) (s : sp_N) (c : Nat) : Nat → Nat → Nat → Nat → Nat
  | 0, _, _, _ => 1
  | r + 1, dp, wet, w => (10 - L 4 2) * sp_chs L E s c wet w (sp_wind L (s 4 1 + dp)) (sp_ch L E s c r (dp + 1)) + L 4 2 * sp_chs L E s c wet w (sp_wind L (s 4 1 + dp) + 3) (sp_ch L E s c r (dp + 1))
def sp_qodds (G : sp_G) (x y : Int32) : Int32 := match sp_ix (G.L 4 0) x, sp_ix 9 y with
  | some c, some n => if G.s 2 c = 0 ∨ n = 0 then -1 else nI (sp_ch G.L G.E G.s c n 0 (G.s 0 c) 0 * 1000000 / 10 ^ n)
  | _, _ => -1
theorem sp_chs_le {L : sp_N} {E : sp_E} {s : sp_N} {c wet w wi : Nat} {f : Nat → Nat → Nat} {B : Nat} (h : ∀ a b, f a b ≤ B) : sp_chs L E s c wet w wi f ≤ B := by
  unfold sp_chs
  split
  · exact h _ _
  · exact Nat.zero_le _
theorem sp_ch_le {L : sp_N} {E : sp_E} {s : sp_N} {c : Nat} (hL : L 4 2 ≤ 10) : ∀ r dp wet w, sp_ch L E s c r dp wet w ≤ 10 ^ r := by
  intro r
  induction r with
  | zero => intro dp wet w; exact Nat.le_refl _
  | succ r ih =>
    intro dp wet w
    simp only [sp_ch]
    have h1 := sp_chs_le (L := L) (E := E) (s := s) (c := c) (wet := wet) (w := w) (wi := sp_wind L (s 4 1 + dp)) (ih (dp + 1))
    have h2 := sp_chs_le (L := L) (E := E) (s := s) (c := c) (wet := wet) (w := w) (wi := sp_wind L (s 4 1 + dp) + 3) (ih (dp + 1))
    have h3 := Nat.mul_le_mul_left (10 - L 4 2) h1
    have h4 := Nat.mul_le_mul_left (L 4 2) h2
    have h5 : (10 - L 4 2) * 10 ^ r + L 4 2 * 10 ^ r = 10 * 10 ^ r := by rw [← Nat.add_mul, Nat.sub_add_cancel hL]
    rw [Nat.pow_succ, Nat.mul_comm (10 ^ r) 10]
    omega
theorem sp_live_bit (s : sp_N) (c w p : Nat) : (sp_live s c w).testBit p = (decide (p < 8) && ((s 2 c).testBit p && decide (w < s 3 p))) := sp_mk_bit _ _ _
theorem sp_live_lt (s : sp_N) (c w : Nat) : sp_live s c w < 256 := sp_mk_lt _ 8
theorem sp_live_grips {L s : sp_N} {h c w : Nat} (ho : sp_okS L s h) : fb_sm (fun p => if (sp_live s c w).testBit p then s 3 p - w else 0) 8 = sp_grips s (s 2 c) w := by
  have h8 := ho.1
  unfold sp_grips
  rw [show 8 = s 4 0 + (8 - s 4 0) by omega, fb_sm_split]
  have z : fb_sm (fun k => if (sp_live s c w).testBit (s 4 0 + k) then s 3 (s 4 0 + k) - w else 0) (8 - s 4 0) = 0 := by
    have : fb_sm (fun k => if (sp_live s c w).testBit (s 4 0 + k) then s 3 (s 4 0 + k) - w else 0) (8 - s 4 0) = fb_sm (fun _ => 0) (8 - s 4 0) := by
      refine fb_sm_cong (fun k hk => ?_)
      rw [ho.2.2.2.2.1 (s 4 0 + k) (by omega)]
      split <;> omega
    rw [this, fb_sm_const]; omega
  rw [z, Nat.add_zero]
  refine fb_sm_cong (fun p hp => ?_)
  rw [sp_live_bit, decide_eq_true (show p < 8 by omega), Bool.true_and]
  by_cases q : (s 2 c).testBit p = true
  · rw [q, Bool.true_and]
    by_cases q2 : w < s 3 p
    · simp [q2]
    · simp [q2]; omega
  · rw [ts_nt q]; simp
theorem fb_sm_eq0 {f : Nat → Nat} {n : Nat} (h : ∀ k, k < n → f k = 0) : fb_sm f n = 0 := by
  rw [fb_sm_cong (g := fun _ => 0) h, fb_sm_const]; omega
theorem sp_live_zero {L s : sp_N} {h c w : Nat} (ho : sp_okS L s h) : sp_live s c w = 0 ↔ sp_grips s (s 2 c) w = 0 := by
  rw [← sp_live_grips (w := w) ho]
  constructor
  · intro e
    refine fb_sm_eq0 (fun k hk => ?_)
    rw [e]; simp
  · intro e
    have hz := fb_sm_zero e
    apply Nat.eq_of_testBit_eq
    intro p
    rw [Nat.zero_testBit]
    cases q : (sp_live s c w).testBit p with
    | false => rfl
    | true =>
      have q1 := q
      rw [sp_live_bit] at q1
      simp only [Bool.and_eq_true, decide_eq_true_eq] at q1
      have := hz p q1.1
      rw [if_pos q] at this
      omega
theorem sp_live_0 {L s : sp_N} {h c : Nat} (ho : sp_okT L s h) : sp_live s c 0 = s 2 c := by
  apply Nat.eq_of_testBit_eq
  intro p
  rw [sp_live_bit]
  have h8 := sp_lt8 (c := c) ho.1
  cases q : (s 2 c).testBit p with
  | false => simp
  | true =>
    have := ho.2 c p q
    have : p < 8 := by
      refine Nat.lt_of_not_le (fun z => ?_)
      have := Nat.testBit_lt_two_pow (Nat.lt_of_lt_of_le h8 (Nat.pow_le_pow_right (n := 2) (by decide) z))
      rw [q] at this; cases this
    simp [*]
/-- those left when the first p are worn once more -/
def sp_part (s : sp_N) (c w p : Nat) : Nat := sp_mk (fun q => ((s 2 c).testBit q && decide (w < s 3 q)) && (decide (p ≤ q) || decide (w + 1 < s 3 q))) 8
theorem sp_part_0 (s : sp_N) (c w : Nat) : sp_part s c w 0 = sp_live s c w := sp_mk_cong (fun i hi => by simp)
theorem sp_part_8 (s : sp_N) (c w : Nat) : sp_part s c w 8 = sp_live s c (w + 1) := sp_mk_cong (fun i hi => by
  rw [decide_eq_false (show ¬ 8 ≤ i by omega), Bool.false_or]
  by_cases q : w + 1 < s 3 i
  · simp [q, show w < s 3 i by omega]
  · simp [q])
theorem sp_part_bit (s : sp_N) (c w p i : Nat) : (sp_part s c w p).testBit i = (decide (i < 8) && (((s 2 c).testBit i && decide (w < s 3 i)) && (decide (p ≤ i) || decide (w + 1 < s 3 i)))) := sp_mk_bit _ _ _
theorem sp_part_lt (s : sp_N) (c w p : Nat) : sp_part s c w p < 256 := sp_mk_lt _ 8
theorem sp_part_keep {s : sp_N} {c w p : Nat} (h : (sp_live s c w).testBit p = true → w + 1 < s 3 p) : sp_part s c w (p + 1) = sp_part s c w p := by
  apply Nat.eq_of_testBit_eq
  intro i
  rw [sp_part_bit, sp_part_bit]
  by_cases e : i = p
  · subst e
    rw [sp_live_bit] at h
    cases q : (decide (i < 8) && ((s 2 c).testBit i && decide (w < s 3 i))) with
    | false =>
      have e2 : ∀ X : Bool, (decide (i < 8) && (((s 2 c).testBit i && decide (w < s 3 i)) && X)) = false := fun X => by rw [← Bool.and_assoc, q]; rfl
      rw [e2, e2]
    | true =>
      have := h q
      simp [this]
  · rw [show decide (p + 1 ≤ i) = decide (p ≤ i) from decide_eq_decide.mpr (by omega)]
theorem sp_part_drop {s : sp_N} {c w p : Nat} (h : ¬ w + 1 < s 3 p) : sp_part s c w p ^^^ (sp_part s c w p &&& 2 ^ p) = sp_part s c w (p + 1) := by
  apply Nat.eq_of_testBit_eq
  intro i
  rw [Nat.testBit_xor, Nat.testBit_and, sp_part_bit, sp_part_bit, Nat.testBit_two_pow]
  by_cases e : i = p
  · subst e; simp [h]
  · rw [show decide (p + 1 ≤ i) = decide (p ≤ i) from decide_eq_decide.mpr (by omega), decide_eq_false (show ¬ p = i from fun z => e z.symm)]; simp
section PGR
variable {S : pg_S} {Λ : pg_L} {d h : Nat} {M : pg_M} {G : sp_G} {L s : sp_N} {E : sp_E}
/-- the rows of grips up to a depth are as they were -/
def rm_cg (dp : Nat) (M M' : pg_M) : Prop := pg_fr [219, 220, 226] M M' ∧ ∀ j, j < 8 * (dp + 1) → M'.1 226 j = M.1 226 j
theorem rm_cg.trans {dp : Nat} {M M1 M2 : pg_M} (h : rm_cg dp M M1) (h2 : rm_cg dp M1 M2) : rm_cg dp M M2 := ⟨h.1.trans h2.1, fun j hj => (h2.2 j hj).trans (h.2 j hj)⟩
theorem rm_cg.rfl' {dp : Nat} {M : pg_M} : rm_cg dp M M := ⟨pg_fr.rfl', fun _ _ => rfl⟩
theorem rm_cg.ev {dp : Nat} {M M1 : pg_M} (h : pg_fr [219, 220] M M1) : rm_cg dp M M1 := ⟨h.mono (fun b hb => by simp at hb ⊢; omega), fun j _ => by rw [h.1 226 (by simp)]⟩
theorem rm_cg.si {dp k : Nat} {M : pg_M} {v : Int32} (h : 8 * (dp + 1) ≤ k) : rm_cg dp M (pg_si M 226 k v) := ⟨pg_fr.si (by simp), fun j hj => by rw [pg_si_at, pk_un (by omega)]⟩
theorem rm_L.cg {dp : Nat} {M' : pg_M} (hl : rm_L M L E) (h : rm_cg dp M M') : rm_L M' L E := hl.keep h.1 (by simp) (by simp) (by simp)
theorem rm_S.cg {dp b : Nat} {M' : pg_M} (hs : rm_S M b s) (h : rm_cg dp M M') : rm_S M' b s := hs.keep h.1 (by simp)
theorem rm_body {c w wet dp hrs rem o wi a : Nat} {v8 : Int32} {P : Option Value → pg_M → Prop} (hc : c < L 4 0) (hdp : dp + (rem + 1) = hrs) (hh8 : hrs ≤ 8) (ho10 : o ≤ 10) (hwet : wet ≤ 9) (hR : pg_isX11 Λ) (hk : sp_okL L E) (ho : sp_okS L s h)
    (hrec : ∀ (wet w : Nat) (M : pg_M), wet ≤ 9 → ¬ sp_live s c w = 0 → rm_S M 0 s → rm_L M L E → (∀ p, (sp_live s c w).testBit p = true → M.1 226 (8 * (dp + 1) + p) = nI (s 3 p - w)) → pg_Ev S Λ YX11_hanging (d + 4 + rem) [.ref 207, .int (nI c), .int (nI (sp_live s c w)), .int (nI wet), .int (nI (dp + 1)), .int (nI hrs)] M (fun r M' => ∃ v, r = some (.long v) ∧ (v = lN (sp_ch L E s c rem (dp + 1) wet w) ∧ rm_cg (dp + 1) M M')))
    (hlv : ¬ sp_live s c w = 0) (hs : rm_S M 0 s) (hl : rm_L M L E) (hrow : ∀ p, (sp_live s c w).testBit p = true → M.1 226 (8 * dp + p) = nI (s 3 p - w))
    (kk : ∀ M', rm_cg dp M M' → pg_At S Λ YX11_hanging (d + 4 + rem + 1) 15 [(0, .ref 207), (1, .int (nI c)), (2, .int (nI (sp_live s c w))), (3, .int (nI wet)), (4, .int (nI dp)), (5, .int (nI hrs)), (6, .long (lN (a + o * sp_chs L E s c wet w wi (sp_ch L E s c rem (dp + 1))))), (8, .int (v8 + 1))] [] M' P) :
    pg_At S Λ YX11_hanging (d + 4 + rem + 1) 79 [(0, .ref 207), (1, .int (nI c)), (2, .int (nI (sp_live s c w))), (3, .int (nI wet)), (4, .int (nI dp)), (5, .int (nI hrs)), (6, .long (lN a)), (8, .int v8), (9, .int (nI o)), (10, .int (nI wi)), (11, .int 0), (12, .int 0)] [] M P := by
  have llt := sp_live_lt s c w
  have hx1 : ∀ p : Nat, (8 : Int32) * nI dp + nI p = nI (8 * dp + p) := fun p => by rw [show (8 : Int32) = nI 8 from rfl, pk_mul, nI_add]
  have hx2 : ∀ p : Nat, (8 : Int32) * (nI dp + 1) + nI p = nI (8 * (dp + 1) + p) := fun p => by rw [nI_1, show (8 : Int32) = nI 8 from rfl, pk_mul, nI_add]
  have sg := sp_live_grips (c := c) (w := w) ho
  have gle := sp_grips_le (bits := s 2 c) (less := w) ho
  have ple := sp_pull_le (L := L) (E := E) (c := c) (wet := wet) (wind := wi)
  have g9 : ∀ p, s 3 p ≤ 9 := ho.2.2.2.1
  refine pg_loop (fun p (q : Int32 × pg_M) => pg_At S Λ YX11_hanging (d + 4 + rem + 1) 79 [(0, .ref 207), (1, .int (nI c)), (2, .int (nI (sp_live s c w))), (3, .int (nI wet)), (4, .int (nI dp)), (5, .int (nI hrs)), (6, .long (lN a)), (8, .int v8), (9, .int (nI o)), (10, .int (nI wi)), (11, .int q.1), (12, .int (nI p))] [] q.2 P) (fun p q => q.1 = nI (fb_sm (fun p => if (sp_live s c w).testBit p then s 3 p - w else 0) p) ∧ (∀ j, j < p → (sp_live s c w).testBit j = true → q.2.1 226 (8 * (dp + 1) + j) = nI (s 3 j - w)) ∧ rm_cg dp M q.2) 8 ?_ ?_ 0 (0, M) (Nat.zero_le _) ⟨rfl, fun j hj => by omega, rm_cg.rfl'⟩
  · rintro ⟨v, m⟩ ⟨rfl, m2, m3⟩
    simp only at m2 m3 ⊢
    rw [sg]
    have c8 : (8 : Int32) ≤ nI 8 := by decide
    refine sX11_hanging_79 (Q0 := fun v M' => v = nI (sp_pull L E c wet wi) ∧ pg_fr [219, 220] m M') hR (fun _ => pg_Ev.mono (by omega) (rm_pullOf (d := 0) hc hR (hl.cg m3) hk)) ?_ (fun c => absurd c8 c) (fun c => absurd c8 c) (fun c => absurd c8 c) (fun c => absurd c8 c)
    rintro _ v M1 ⟨rfl, f1⟩
    have f1' : rm_cg dp M M1 := m3.trans (rm_cg.ev f1)
    have r1 : ∀ j, (sp_live s c w).testBit j = true → M1.1 226 (8 * (dp + 1) + j) = nI (s 3 j - w) := fun j hj => by
      rw [f1.1 226 (by simp)]
      refine m2 j ?_ hj
      rw [sp_live_bit] at hj
      simp only [Bool.and_eq_true, decide_eq_true_eq] at hj
      exact hj.1
    have h2p : (2 : Int32) * nI (sp_pull L E c wet wi) = nI (2 * sp_pull L E c wet wi) := by rw [show (2 : Int32) = nI 2 from rfl, pk_mul]
    have wear : 2 * sp_pull L E c wet wi ≤ sp_grips s (s 2 c) w ↔ nI (2 * sp_pull L E c wet wi) ≤ nI (sp_grips s (s 2 c) w) := (nI_leI (by omega) (by omega)).symm
    -- behind the wear
    have fin : ∀ (m : pg_M), rm_cg dp M m → (∀ j, (sp_live s c (sp_worn L E s c wet w wi)).testBit j = true → m.1 226 (8 * (dp + 1) + j) = nI (s 3 j - sp_worn L E s c wet w wi)) → pg_At S Λ YX11_hanging (d + 4 + rem + 1) 252 [(0, .ref 207), (1, .int (nI c)), (2, .int (nI (sp_live s c w))), (3, .int (nI wet)), (4, .int (nI dp)), (5, .int (nI hrs)), (6, .long (lN a)), (8, .int v8), (9, .int (nI o)), (10, .int (nI wi)), (11, .int (nI (sp_grips s (s 2 c) w))), (12, .int (nI (sp_pull L E c wet wi))), (13, .int (nI (sp_live s c (sp_worn L E s c wet w wi))))] [] m P := by
      intro m m3 mr
      have lz := sp_live_zero (c := c) (w := sp_worn L E s c wet w wi) ho
      have l9 := sp_live_lt s c (sp_worn L E s c wet w wi)
      have dl := sp_dry_le (L := L) (E := E) (c := c) (wet := wet) (wind := wi)
      have zero : o * sp_chs L E s c wet w wi (sp_ch L E s c rem (dp + 1)) = 0 → pg_At S Λ YX11_hanging (d + 4 + rem + 1) 15 [(0, .ref 207), (1, .int (nI c)), (2, .int (nI (sp_live s c w))), (3, .int (nI wet)), (4, .int (nI dp)), (5, .int (nI hrs)), (6, .long (lN a + 0)), (8, .int (v8 + 1))] [] m P := fun q => by
        have := kk m m3
        rw [q] at this
        rw [show lN a + 0 = lN (a + 0) from lo_add a 0]
        exact this
      refine sX11_hanging_252 (Q0 := fun v M' => v = nI (sp_dry L E c wet wi) ∧ pg_fr [219, 220] m M') (Q1 := fun v M' => v = lN (sp_ch L E s c rem (dp + 1) (sp_dry L E c wet wi) (sp_worn L E s c wet w wi)) ∧ rm_cg dp M M') hR ?_ ?_ ?_ ?_ ?_ ?_
      · intro q
        rw [show (0 : Int32) = nI 0 from rfl, nI_leI (by omega) (by omega)] at q
        exact zero (by rw [show o = 0 by omega, Nat.zero_mul])
      · intro _ q
        rw [nI_ltI (by omega) (by omega)] at q
        exact zero (by unfold sp_chs; rw [if_neg (fun z => by omega), Nat.mul_zero])
      · intro _ _ q
        rw [← nI_0, nI_eq (by omega) (by omega), lz] at q
        exact zero (by unfold sp_chs; rw [if_neg (fun z => z.2 q), Nat.mul_zero])
      · intro _ _ _; exact pg_Ev.mono (by omega) (rm_driedOf (d := 0) hc (by omega) hR (hl.cg m3) hk)
      · rintro _ _ q v M2 ⟨rfl, f2⟩
        rw [← nI_0, nI_eq (by omega) (by omega)] at q
        have f2' : rm_cg dp M M2 := m3.trans (rm_cg.ev f2)
        rw [nI_1]
        refine pg_Ev.imp ?_ (hrec (sp_dry L E c wet wi) (sp_worn L E s c wet w wi) M2 (by omega) q (hs.cg f2') (hl.cg f2') (fun p hp => by rw [f2.1 226 (by simp)]; exact mr p hp))
        rintro r M3 ⟨v, e1, e2, e3⟩
        exact ⟨v, e1, e2, f2'.trans ⟨e3.1, fun j hj => e3.2 j (by omega)⟩⟩
      · rintro _ q1 q2 v M2 _ v2 M3 ⟨rfl, f3⟩
        rw [nI_ltI (by omega) (by omega)] at q1
        rw [← nI_0, nI_eq (by omega) (by omega), lz] at q2
        have := kk M3 f3
        have e : sp_chs L E s c wet w wi (sp_ch L E s c rem (dp + 1)) = sp_ch L E s c rem (dp + 1) (sp_dry L E c wet wi) (sp_worn L E s c wet w wi) := by unfold sp_chs; rw [if_pos ⟨by omega, q2⟩]
        rw [e, ← lo_add, ← lo_mul, ← lo_of (show o < 2 ^ 31 by omega)] at this
        exact this
    by_cases hw : 2 * sp_pull L E c wet wi ≤ sp_grips s (s 2 c) w
    · have ew : sp_worn L E s c wet w wi = w := by unfold sp_worn; rw [if_pos hw]
      have := fin M1 f1' (by rw [ew]; exact r1)
      rw [ew] at this
      have c0 : ¬ (8 : Int32) ≤ 0 := by decide
      refine sX11_hanging_168 hR (fun c => absurd c c0) (fun _ _ => this) (fun _ c => absurd (by rw [h2p]; exact wear.mp hw) c) (fun _ c => absurd (by rw [h2p]; exact wear.mp hw) c) (fun _ c => absurd (by rw [h2p]; exact wear.mp hw) c) (fun _ c => absurd (by rw [h2p]; exact wear.mp hw) c)
    · have ew : sp_worn L E s c wet w wi = w + 1 := by unfold sp_worn; rw [if_neg hw]
      rw [ew] at fin
      rw [← sp_part_0]
      refine pg_loop (fun p (m : pg_M) => pg_At S Λ YX11_hanging (d + 4 + rem + 1) 168 [(0, .ref 207), (1, .int (nI c)), (2, .int (nI (sp_part s c w 0))), (3, .int (nI wet)), (4, .int (nI dp)), (5, .int (nI hrs)), (6, .long (lN a)), (8, .int v8), (9, .int (nI o)), (10, .int (nI wi)), (11, .int (nI (sp_grips s (s 2 c) w))), (12, .int (nI (sp_pull L E c wet wi))), (13, .int (nI (sp_part s c w p))), (14, .int (nI p))] [] m P) (fun p m => rm_cg dp M m ∧ ∀ j, (sp_live s c w).testBit j = true → m.1 226 (8 * (dp + 1) + j) = nI (if j < p then s 3 j - (w + 1) else s 3 j - w)) 8 ?_ ?_ 0 M1 (Nat.zero_le _) ⟨f1', fun j hj => by rw [if_neg (by omega)]; exact r1 j hj⟩
      · rintro m ⟨n1, n2⟩
        rw [sp_part_8, sp_part_0]
        refine sX11_hanging_168 hR (fun _ => fin m n1 (fun j hj => ?_)) (fun c => absurd c8 c) (fun c => absurd c8 c) (fun c => absurd c8 c) (fun c => absurd c8 c) (fun c => absurd c8 c)
        rw [sp_live_bit] at hj
        simp only [Bool.and_eq_true, decide_eq_true_eq] at hj
        have := n2 j (by rw [sp_live_bit]; simp only [Bool.and_eq_true, decide_eq_true_eq]; exact ⟨hj.1, hj.2.1, by omega⟩)
        rw [if_pos hj.1] at this
        exact this
      · rintro p m hp ⟨n1, n2⟩ ih
        have cp : ¬ (8 : Int32) ≤ nI p := nI_ge (b := 8) hp (by decide)
        have cw : ¬ (2 : Int32) * nI (sp_pull L E c wet wi) ≤ nI (sp_grips s (s 2 c) w) := by rw [h2p]; exact fun z => hw (wear.mpr z)
        have bi := nb_bit' (n := sp_part s c w 0) (k := p) (by have := sp_part_lt s c w 0; omega) (by omega)
        rw [sp_part_0] at bi
        have pl := sp_part_lt s c w p
        have hcl : ((8 : Int32) * (nI dp + 1) + nI p).toNatClampNeg = 8 * (dp + 1) + p := by rw [hx2, nI_clamp (by omega)]
        have val : (sp_live s c w).testBit p = true → 1 ≤ s 3 p - w ∧ m.1 226 (8 * (dp + 1) + p) - 1 = nI (s 3 p - (w + 1)) := fun q => by
          have q1 := q
          rw [sp_live_bit] at q1
          simp only [Bool.and_eq_true, decide_eq_true_eq] at q1
          refine ⟨by omega, ?_⟩
          rw [n2 p q, if_neg (by omega), show s 3 p - w = (s 3 p - (w + 1)) + 1 by omega, nI_pred]
        have next : ∀ m' : pg_M, m' = pg_si m 226 (8 * (dp + 1) + p) (m.1 226 (8 * (dp + 1) + p) - 1) → (sp_live s c w).testBit p = true → rm_cg dp M m' ∧ ∀ j, (sp_live s c w).testBit j = true → m'.1 226 (8 * (dp + 1) + j) = nI (if j < p + 1 then s 3 j - (w + 1) else s 3 j - w) := by
          rintro m' rfl q
          refine ⟨n1.trans (rm_cg.si (by omega)), fun j hj => ?_⟩
          rw [pg_si_at]
          by_cases e : j = p
          · subst e; rw [pk_us, if_pos (by omega)]; exact (val q).2
          · rw [pk_un (by omega), n2 j hj]
            congr 1
            by_cases e2 : j < p
            · rw [if_pos e2, if_pos (by omega)]
            · rw [if_neg e2, if_neg (by omega)]
        refine sX11_hanging_168 hR (fun c => absurd c cp) (fun _ c => absurd c cw) ?_ ?_ ?_ ?_ <;> simp only [hcl, sp_part_0]
        · intro _ _ q
          rw [bi] at q
          rw [nI_1, ← sp_part_keep (p := p) (fun z => absurd z q)]
          have := ih m ⟨n1, fun j hj => ?_⟩
          · rw [sp_part_0] at this; exact this
          · rw [n2 j hj]
            have : j ≠ p := fun e => q (e ▸ hj)
            congr 1
            by_cases e2 : j < p
            · rw [if_pos e2, if_pos (by omega)]
            · rw [if_neg e2, if_neg (by omega)]
        · intro _ _ _; rw [hx2]; exact vp_in_nI (by omega) (by decide)
        · intro _ _ q q2
          rw [bi] at q
          rw [pg_si_at, pk_us, (val q).2, ← nI_0, nI_eq (by have := g9 p; omega) (by omega)] at q2
          rw [nI_1, show nI (sp_part s c w p) &&& (-1) = nI (sp_part s c w p) by simp, ← sp_part_keep (p := p) (fun _ => by omega)]
          have := ih _ (next _ rfl q)
          rw [sp_part_0] at this; exact this
        · intro _ _ q q2
          rw [bi] at q
          rw [pg_si_at, pk_us, (val q).2, ← nI_0, nI_eq (by have := g9 p; omega) (by omega)] at q2
          rw [nI_1, nb_pow (by omega), nb_andn, sp_part_drop (p := p) (by omega)]
          have := ih _ (next _ rfl q)
          rw [sp_part_0] at this; exact this
  · rintro p ⟨v, m⟩ hp ⟨rfl, m2, m3⟩ ih
    simp only at m2 m3 ⊢
    have cp : ¬ (8 : Int32) ≤ nI p := nI_ge (b := 8) hp (by decide)
    have bi := nb_bit' (n := sp_live s c w) (k := p) (by omega) (by omega)
    have hc1 : ((8 : Int32) * nI dp + nI p).toNatClampNeg = 8 * dp + p := by rw [hx1, nI_clamp (by omega)]
    have hc2 : ((8 : Int32) * (nI dp + 1) + nI p).toNatClampNeg = 8 * (dp + 1) + p := by rw [hx2, nI_clamp (by omega)]
    have row : (sp_live s c w).testBit p = true → m.1 226 (8 * dp + p) = nI (s 3 p - w) := fun q => by rw [m3.2 _ (by omega)]; exact hrow p q
    have next : ∀ x : Int32, ((sp_live s c w).testBit p = true → x = nI (s 3 p - w)) → (∀ j, j < p + 1 → (sp_live s c w).testBit j = true → (pg_si m 226 (8 * (dp + 1) + p) x).1 226 (8 * (dp + 1) + j) = nI (s 3 j - w)) ∧ rm_cg dp M (pg_si m 226 (8 * (dp + 1) + p) x) := fun x hx => by
      refine ⟨fun j hj q => ?_, m3.trans (rm_cg.si (by omega))⟩
      rw [pg_si_at]
      by_cases e : j = p
      · subst e; rw [pk_us]; exact hx q
      · rw [pk_un (by omega)]; exact m2 j (by omega) q
    refine sX11_hanging_79 (Q0 := fun _ _ => True) hR (fun c => absurd c cp) (fun c => absurd c cp) ?_ ?_ ?_ ?_ <;> (try simp only [hc1, hc2])
    · intro _; rw [hx1]; exact vp_in_nI (by omega) (by decide)
    · intro _; rw [hx2]; exact vp_in_nI (by omega) (by decide)
    · intro _ q
      rw [bi] at q
      obtain ⟨x1, x2⟩ := next (m.1 226 (8 * dp + p)) (fun z => absurd z q)
      rw [nI_1, show nI (fb_sm (fun p => if (sp_live s c w).testBit p then s 3 p - w else 0) p) + 0 = nI (fb_sm (fun p => if (sp_live s c w).testBit p then s 3 p - w else 0) p + 0) from nI_add _ 0]
      refine ih (_, _) ⟨?_, x1, x2⟩
      show nI _ = nI _
      rw [fb_sm_succ, if_neg q]
    · intro _ q
      rw [bi] at q
      obtain ⟨x1, x2⟩ := next (m.1 226 (8 * dp + p)) row
      have e : (pg_si m 226 (8 * (dp + 1) + p) (m.1 226 (8 * dp + p))).1 226 (8 * dp + p) = nI (s 3 p - w) := by rw [pg_si_at, pk_un (by omega)]; exact row q
      rw [nI_1, e, nI_add]
      refine ih (_, _) ⟨?_, x1, x2⟩
      show nI _ = nI _
      rw [fb_sm_succ, if_pos q]
theorem rm_hanging {c hrs : Nat} (hc : c < L 4 0) (hh8 : hrs ≤ 8) (hh : h < 2 ^ 29) (hR : pg_isX11 Λ) (hk : sp_okL L E) (ho : sp_okS L s h) : ∀ (rem dp wet w : Nat) (M : pg_M), dp + rem = hrs → wet ≤ 9 → ¬ sp_live s c w = 0 → rm_S M 0 s → rm_L M L E → (∀ p, (sp_live s c w).testBit p = true → M.1 226 (8 * dp + p) = nI (s 3 p - w)) → pg_Ev S Λ YX11_hanging (d + 4 + rem) [.ref 207, .int (nI c), .int (nI (sp_live s c w)), .int (nI wet), .int (nI dp), .int (nI hrs)] M (fun r M' => ∃ v, r = some (.long v) ∧ (v = lN (sp_ch L E s c rem dp wet w) ∧ rm_cg dp M M')) := by
  have h41 := ho.2.1
  have hL10 := hk.2.2.2.1
  intro rem
  induction rem with
  | zero =>
    intro dp wet w M hdp hwet hlv hs hl hrow
    refine oX11_hanging (d := d + 3 + 1) (sX11_hanging_0 (fun q => absurd (by rw [show dp = hrs by omega]) q) (fun _ => ⟨_, rfl, rfl, rm_cg.rfl'⟩))
  | succ rem ih =>
    intro dp wet w M hdp hwet hlv hs hl hrow
    have e42 : ∀ {m : pg_M}, rm_L m L E → m.1 213 (4 : Int32).toNatClampNeg = nI (L 4 2) := fun hm => hm.2.2.2.2.1
    have e0 : ∀ {m : pg_M}, rm_S m 0 s → m.1 221 (0 : Int32).toNatClampNeg = nI (s 4 1) := fun hm => hm.1
    refine oX11_hanging (d := d + 4 + rem + 1) (sX11_hanging_0 (fun _ => ?_) (fun q => absurd q (by rw [nI_eq (by omega) (by omega)]; omega)))
    have t1 : (10 : Int32) - nI (L 4 2) = nI (10 - L 4 2) := by rw [show (10 : Int32) = nI 10 from rfl]; exact pk_sub hL10
    have hz : ¬ (2 : Int32) ≤ 0 := by decide
    have hz1 : ¬ (0 : Int32) = 1 := by decide
    have hrec : ∀ (wet w : Nat) (M : pg_M), wet ≤ 9 → ¬ sp_live s c w = 0 → rm_S M 0 s → rm_L M L E → (∀ p, (sp_live s c w).testBit p = true → M.1 226 (8 * (dp + 1) + p) = nI (s 3 p - w)) → pg_Ev S Λ YX11_hanging (d + 4 + rem) [.ref 207, .int (nI c), .int (nI (sp_live s c w)), .int (nI wet), .int (nI (dp + 1)), .int (nI hrs)] M (fun r M' => ∃ v, r = some (.long v) ∧ (v = lN (sp_ch L E s c rem (dp + 1) wet w) ∧ rm_cg (dp + 1) M M')) := fun wet w M a b c d e => ih (dp + 1) wet w M (by omega) a b c d e
    refine sX11_hanging_15 (Q0 := fun v M' => v = nI (sp_wind L (s 4 1 + dp) + if false then 3 else 0) ∧ M' = M) (Q1 := fun _ _ => True) (Q2 := fun _ _ => True) (Q3 := fun _ _ => True) hR (fun q => absurd q hz) ?_ ?_ (fun _ _ q => absurd q hz1) (fun _ _ q => absurd q hz1) (fun _ q => absurd q hz1) (fun _ q => absurd q hz1) (fun _ q => absurd q hz1) (fun _ q => absurd q hz1)
    · intro _ _ _; rw [e0 hs, nI_add]; exact rm_windOf false (by omega) hR hl hk
    · rintro _ _ _ v M1 ⟨rfl, rfl⟩
      rw [e42 hl, t1]
      refine rm_body (rem := rem) (a := 0) hc hdp hh8 (by omega) hwet hR hk ho hrec hlv hs hl hrow ?_
      intro M2 f2
      have hs2 := hs.cg f2
      have hl2 := hl.cg f2
      have o2 : ¬ (2 : Int32) ≤ 0 + 1 := by decide
      have o1 : (0 : Int32) + 1 = 1 := by decide
      refine sX11_hanging_15 (Q0 := fun _ _ => True) (Q1 := fun _ _ => True) (Q2 := fun _ _ => True) (Q3 := fun v M' => v = nI (sp_wind L (s 4 1 + dp) + if true then 3 else 0) ∧ M' = M2) hR (fun q => absurd q o2) (fun _ q => absurd o1 q) (fun _ q => absurd o1 q) (fun _ q => absurd o1 q) (fun _ q => absurd o1 q) (fun _ _ q => absurd o1 q) (fun _ _ q => absurd o1 q) ?_ ?_
      · intro _ _ _; rw [e0 hs2, nI_add]; exact rm_windOf true (by omega) hR hl2 hk
      · rintro _ _ _ v M3 ⟨rfl, rfl⟩
        rw [e42 hl2]
        refine rm_body (rem := rem) hc hdp hh8 hL10 hwet hR hk ho hrec hlv hs2 hl2 (fun p hp => by
          have : p < 8 := by rw [sp_live_bit] at hp; simp only [Bool.and_eq_true, decide_eq_true_eq] at hp; exact hp.1
          rw [f2.2 _ (by omega)]; exact hrow p hp) ?_
        intro M4 f4
        have o3 : (2 : Int32) ≤ 0 + 1 + 1 := by decide
        refine sX11_hanging_15 (Q0 := fun _ _ => True) (Q1 := fun _ _ => True) (Q2 := fun _ _ => True) (Q3 := fun _ _ => True) hR (fun _ => ⟨_, rfl, ?_, f2.trans f4⟩) (fun q => absurd o3 q) (fun q => absurd o3 q) (fun q => absurd o3 q) (fun q => absurd o3 q) (fun q => absurd o3 q) (fun q => absurd o3 q) (fun q => absurd o3 q) (fun q => absurd o3 q)
        simp only [sp_ch]
        simp
end PGR
