/-! the reference: what it holds, and what it answers of a line without a change -/
def sp_def (k : Nat) : List (Nat × Int32) := if k = 0 then [(2, 0), (2, 2), (4, 0), (2, 1), (5, 0)] else [(2, 0)]
theorem sp_def_0 (w m z : Int32) : sp_val (sp_def 0) w m z = w + z - m := rfl
theorem sp_def_1 (w m z : Int32) : sp_val (sp_def 1) w m z = w := rfl
theorem sp_def_ok0 : sp_ok (sp_def 0) := by simp [sp_ok, sp_def, sp_dep]
theorem sp_def_ok1 : sp_ok (sp_def 1) := by simp [sp_ok, sp_def, sp_dep]
/-- a law's code in the reference, from a place on -/
def rm_U (M : pg_M) (fr : Nat) (cs : List (Nat × Int32)) : Prop := fr + cs.length < 1100 ∧ M.1 214 (fr + cs.length) = 0 ∧ ∀ (j : Nat) (e : Nat × Int32), cs[j]? = some e → M.1 214 (fr + j) = nI e.1 ∧ M.1 215 (fr + j) = e.2
def rm_E (M : pg_M) (k : Nat) (cs : List (Nat × Int32)) : Prop := (M.1 213 (6 + k) = -1 ∧ cs = sp_def k) ∨ ∃ fr, M.1 213 (6 + k) = nI fr ∧ rm_U M fr cs
def rm_L (M : pg_M) (L : sp_N) (E : sp_E) : Prop :=
  M.1 213 0 = nI (L 4 0) ∧ M.1 213 1 = nI (L 4 4) ∧ M.1 213 2 = nI (L 4 3) ∧ M.1 213 3 = nI (L 4 1) ∧ M.1 213 4 = nI (L 4 2) ∧ M.1 213 5 = nI (L 4 5) ∧
  (∀ c k, c < L 4 0 → k < 4 → M.1 213 (8 + 4 * c + k) = nI (L k c)) ∧ (∀ a b, a < 6 → b < 6 → M.1 213 (32 + 6 * a + b) = nI (L 6 (6 * a + b))) ∧
  (∀ p, p < L 4 4 → M.1 213 (68 + p) = nI (L 7 p)) ∧ (∀ j, j < L 4 3 → M.1 213 (76 + j) = nI (L 5 j)) ∧ rm_E M 0 (E 0) ∧ rm_E M 1 (E 1)
def rm_S (M : pg_M) (b : Nat) (s : sp_N) : Prop :=
  M.1 221 b = nI (s 4 1) ∧ M.1 221 (b + 1) = nI (s 4 0) ∧ (∀ c, c < 6 → M.1 221 (b + 2 + c) = nI (s 0 c) ∧ M.1 221 (b + 8 + c) = nI (s 1 c) ∧ M.1 221 (b + 14 + c) = nI (s 2 c)) ∧ ∀ p, p < 8 → M.1 221 (b + 20 + p) = nI (s 3 p)
theorem rm_L.keep {X : List Nat} {M M' : pg_M} {L : sp_N} {E : sp_E} (h : rm_L M L E) (hf : pg_fr X M M') (h1 : 213 ∉ X) (h2 : 214 ∉ X) (h3 : 215 ∉ X) : rm_L M' L E := by
  unfold rm_L rm_E rm_U at *
  rw [hf.1 213 h1, hf.1 214 h2, hf.1 215 h3]
  exact h
theorem rm_S.keep {X : List Nat} {M M' : pg_M} {b : Nat} {s : sp_N} (h : rm_S M b s) (hf : pg_fr X M M') (h1 : 221 ∉ X) : rm_S M' b s := by
  unfold rm_S at *
  rw [hf.1 221 h1]
  exact h
theorem tn_0 : (0 : Int32).toNatClampNeg = 0 := rfl
theorem tn_1 : (1 : Int32).toNatClampNeg = 1 := rfl
theorem tn_2 : (2 : Int32).toNatClampNeg = 2 := rfl
theorem tn_3 : (3 : Int32).toNatClampNeg = 3 := rfl
theorem tn_4 : (4 : Int32).toNatClampNeg = 4 := rfl
theorem tn_5 : (5 : Int32).toNatClampNeg = 5 := rfl
theorem tn_6 : (6 : Int32).toNatClampNeg = 6 := rfl
theorem tn_7 : (7 : Int32).toNatClampNeg = 7 := rfl
theorem sp_pc_30 {n : Nat} (h : n < 65536) : fb_ct (fun k => n.testBit k) 30 = sp_pc n := by
  unfold sp_pc
  rw [show 30 = 16 + 14 from rfl, fb_ct_split]
  have : fb_ct (fun k => n.testBit (16 + k)) 14 = 0 := by
    rw [fb_ct_zero]
    intro k _
    exact Nat.testBit_lt_two_pow (Nat.lt_of_lt_of_le h (Nat.pow_le_pow_right (n := 2) (by decide) (show 16 ≤ 16 + k by omega)))
  omega
section PGR
variable {S : pg_S} {Λ : pg_L} {d b h : Nat} {M : pg_M} {L s : sp_N} {E : sp_E}
theorem rm_within {x lo hi : Int32} : pg_Ev S Λ YX11_within d [.int x, .int lo, .int hi] M (fun r M' => ∃ v, r = some (.int v) ∧ (v = b2i (decide (¬ x < lo ∧ ¬ hi < x)) ∧ M' = M)) := by
  refine oX11_within (sX11_within_0 (fun c => ?_) (fun c c2 => ?_) (fun c c2 => ?_))
  · exact ⟨_, rfl, by rw [decide_eq_false (fun q => q.1 c)]; rfl, rfl⟩
  · exact ⟨_, rfl, by rw [decide_eq_false (fun q => q.2 c2)]; rfl, rfl⟩
  · exact ⟨_, rfl, by rw [decide_eq_true ⟨c, c2⟩]; rfl, rfl⟩
theorem rm_cloths (hR : pg_isX11 Λ) (hl : rm_L M L E) : pg_Ev S Λ YX11_cloths d [.ref 207] M (fun r M' => ∃ v, r = some (.int v) ∧ (v = nI (L 4 0) ∧ M' = M)) :=
  oX11_cloths (sX11_cloths_0 hR ⟨_, rfl, by rw [tn_0]; exact hl.1, rfl⟩)
theorem rm_clothOf {c k : Nat} (hc : c < L 4 0) (hk4 : k < 4) (hR : pg_isX11 Λ) (hl : rm_L M L E) (hk : sp_okL L E) : pg_Ev S Λ YX11_clothOf d [.ref 207, .int (nI c), .int (nI k)] M (fun r M' => ∃ v, r = some (.int v) ∧ (v = nI (L k c) ∧ M' = M)) := by
  have h6 := hk.1
  have e : (8 : Int32) + 4 * nI c + nI k = nI (8 + 4 * c + k) := by rw [show (8 : Int32) = nI 8 from rfl, show (4 : Int32) = nI 4 from rfl, pk_mul, nI_add, nI_add]
  refine oX11_clothOf (sX11_clothOf_0 hR (by rw [e]; exact vp_in_nI (by omega) (by decide)) ⟨_, rfl, ?_, rfl⟩)
  rw [e, nI_clamp (by omega)]
  exact hl.2.2.2.2.2.2.1 c k hc hk4
theorem rm_isCloth {x : Int32} (hR : pg_isX11 Λ) (hl : rm_L M L E) (hk : sp_okL L E) : pg_Ev S Λ YX11_isCloth (d + 1) [.ref 207, .int x] M (fun r M' => ∃ v, r = some (.int v) ∧ (v = b2i (sp_ix (L 4 0) x).isSome ∧ M' = M)) := by
  have h6 := hk.1
  refine oX11_isCloth (sX11_isCloth_0 (Q0 := fun v M' => v = nI (L 4 0) ∧ M' = M) hR (fun c => ?_) (fun _ => rm_cloths hR hl) ?_ ?_)
  · refine ⟨_, rfl, ?_, rfl⟩
    rw [(sp_ix_none (by omega)).mpr (fun k hk1 e => by rw [e] at c; exact absurd c (nI_pos (by omega)))]; rfl
  · rintro c x1 M1 ⟨rfl, rfl⟩ c2
    refine ⟨_, rfl, ?_, rfl⟩
    rw [(sp_ix_none (by omega)).mpr (fun k hk1 e => by rw [e] at c2; exact absurd c2 (nI_ge hk1 (by omega)))]; rfl
  · rintro c x1 M1 ⟨rfl, rfl⟩ c2
    obtain ⟨j, hj, rfl⟩ := nI_of c
    rw [nI_leI (by omega) hj] at c2
    exact ⟨_, rfl, by rw [sp_ix_nI (by omega) (by omega)]; rfl, rfl⟩
theorem rm_bits {n : Nat} (hn : n < 65536) : pg_Ev S Λ YX11_bits d [.int (nI n)] M (fun r M' => ∃ v, r = some (.int v) ∧ (v = nI (sp_pc n) ∧ M' = M)) := by
  refine oX11_bits (sX11_bits_0 ?_)
  refine pg_loop (fun i (v : Int32) => pg_At S Λ YX11_bits d 4 [(0, .int (nI n)), (1, .int v), (2, .int (nI i))] [] M _) (fun i v => v = nI (fb_ct (fun k => n.testBit k) i)) 30 ?_ ?_ 0 0 (Nat.zero_le _) rfl
  · rintro v rfl
    exact sX11_bits_4 (fun _ => ⟨_, rfl, by rw [sp_pc_30 hn], rfl⟩) (fun c => absurd (show (30 : Int32) ≤ nI 30 by decide) c)
  · rintro i v hi rfl ih
    have c9 : ¬ (30 : Int32) ≤ nI i := nI_ge (b := 30) hi (by decide)
    refine sX11_bits_4 (fun c => absurd c c9) (fun _ => ?_)
    rw [nb_bit1 (by omega) (by omega), nI_add, nI_1]
    refine ih _ ?_
    congr 1
    rw [fb_ct_succ, Nat.testBit_eq_decide_div_mod_eq]
    by_cases h1 : n / 2 ^ i % 2 = 1
    · simp [h1]
    · rw [show n / 2 ^ i % 2 = 0 by omega]; simp
theorem rm_needs {c : Nat} (hc : c < L 4 0) (hR : pg_isX11 Λ) (hl : rm_L M L E) (hk : sp_okL L E) : pg_Ev S Λ YX11_needs (d + 1) [.ref 207, .int (nI c)] M (fun r M' => ∃ v, r = some (.int v) ∧ (v = nI (sp_needs L c) ∧ M' = M)) := by
  have h3 := (hk.2.1 c).1
  refine oX11_needs (sX11_needs_0 (Q0 := fun v M' => v = nI (L 0 c) ∧ M' = M) hR (rm_clothOf (k := 0) hc (by decide) hR hl hk) ?_ ?_)
  · rintro x1 M1 ⟨rfl, rfl⟩ c1
    rw [show (1 : Int32) = nI 1 from rfl, nI_eq (by omega) (by omega)] at c1
    exact ⟨_, rfl, by simp only [sp_needs, if_neg c1]; rfl, rfl⟩
  · rintro x1 M1 ⟨rfl, rfl⟩ c1
    rw [show (1 : Int32) = nI 1 from rfl, nI_eq (by omega) (by omega)] at c1
    exact ⟨_, rfl, by simp only [sp_needs, if_pos c1]; rfl, rfl⟩
theorem rm_at {k c : Nat} : nI b + nI k + nI c = nI (b + k + c) := by rw [nI_add, nI_add]
theorem rm_isHung {c : Nat} (hc : c < 6) (hb : b + 28 ≤ 1242) (hR : pg_isX11 Λ) (hs : rm_S M b s) (ho : sp_okS L s h) : pg_Ev S Λ YX11_isHung d [.ref 207, .int (nI b), .int (nI c)] M (fun r M' => ∃ v, r = some (.int v) ∧ (v = b2i (decide (¬ s 2 c = 0)) ∧ M' = M)) := by
  have h8 := sp_lt8 (c := c) ho
  have e : nI b + (14 : Int32) + nI c = nI (b + 14 + c) := rm_at (k := 14)
  have hv : M.1 221 (nI b + (14 : Int32) + nI c).toNatClampNeg = nI (s 2 c) := by rw [e, nI_clamp (by omega)]; exact (hs.2.2.1 c hc).2.2
  refine oX11_isHung (sX11_isHung_0 hR (by rw [e]; exact vp_in_nI (by omega) (by decide)) (fun c1 => ?_) (fun c1 => ?_))
  · rw [hv, ← nI_0, nI_eq (by omega) (by omega)] at c1
    exact ⟨_, rfl, by simp [c1, b2i], rfl⟩
  · rw [hv, ← nI_0, nI_eq (by omega) (by omega)] at c1
    exact ⟨_, rfl, by simp [c1, b2i], rfl⟩
theorem rm_isLaw {c : Nat} (hc : c < L 4 0) (hb : b + 28 ≤ 1242) (hR : pg_isX11 Λ) (hs : rm_S M b s) (hl : rm_L M L E) (hk : sp_okL L E) (ho : sp_okS L s h) : pg_Ev S Λ YX11_isLaw (d + 2) [.ref 207, .int (nI b), .int (nI c)] M (fun r M' => ∃ v, r = some (.int v) ∧ (v = b2i (sp_law L s c) ∧ M' = M)) := by
  have h6 := hk.1
  have h8 := sp_lt8 (c := c) ho
  have h9 := (ho.2.2.1 c).2.1
  have hp := sp_pc_le (s 2 c)
  have hn4 : sp_needs L c ≤ 4 := by unfold sp_needs; split <;> omega
  have e : nI b + (14 : Int32) + nI c = nI (b + 14 + c) := rm_at (k := 14)
  have e8 : nI b + (8 : Int32) + nI c = nI (b + 8 + c) := rm_at (k := 8)
  have hv : M.1 221 (nI b + (14 : Int32) + nI c).toNatClampNeg = nI (s 2 c) := by rw [e, nI_clamp (by omega)]; exact (hs.2.2.1 c (by omega)).2.2
  have hv8 : M.1 221 (nI b + (8 : Int32) + nI c).toNatClampNeg = nI (s 1 c) := by rw [e8, nI_clamp (by omega)]; exact (hs.2.2.1 c (by omega)).2.1
  refine oX11_isLaw (sX11_isLaw_0 (Q0 := fun v M' => v = nI (sp_pc (s 2 c)) ∧ M' = M) (Q1 := fun v M' => v = nI (sp_needs L c) ∧ M' = M) hR (by rw [e]; exact vp_in_nI (by omega) (by decide)) (by rw [hv]; exact rm_bits (by omega)) ?_ ?_ ?_ ?_ ?_)
  · rintro x1 M1 ⟨rfl, rfl⟩; exact rm_needs hc hR hl hk
  · rintro x1 M1 ⟨rfl, rfl⟩ x2 M2 ⟨rfl, rfl⟩ c1
    rw [nI_eq (by omega) (by omega)] at c1
    exact ⟨_, rfl, by simp [sp_law, c1, b2i], rfl⟩
  · rintro x1 M1 ⟨rfl, rfl⟩ x2 M2 ⟨rfl, rfl⟩ c1
    rw [e8]; exact vp_in_nI (by omega) (by decide)
  · rintro x1 M1 ⟨rfl, rfl⟩ x2 M2 ⟨rfl, rfl⟩ c1 c2
    rw [hv8, show (3 : Int32) = nI 3 from rfl, nI_leI (by omega) (by omega)] at c2
    exact ⟨_, rfl, by simp [sp_law, show ¬ s 1 c < 3 by omega, b2i], rfl⟩
  · rintro x1 M1 ⟨rfl, rfl⟩ x2 M2 ⟨rfl, rfl⟩ c1 c2
    rw [nI_eq (by omega) (by omega)] at c1
    rw [hv8, show (3 : Int32) = nI 3 from rfl, nI_leI (by omega) (by omega)] at c2
    exact ⟨_, rfl, by simp [sp_law, c1, show s 1 c < 3 by omega, b2i], rfl⟩
theorem rm_isTurned {c : Nat} (hc : c < 6) (hb : b + 28 ≤ 1242) (hR : pg_isX11 Λ) (hs : rm_S M b s) (ho : sp_okS L s h) : pg_Ev S Λ YX11_isTurned (d + 1) [.ref 207, .int (nI b), .int (nI c)] M (fun r M' => ∃ v, r = some (.int v) ∧ (v = b2i (sp_turn s c) ∧ M' = M)) := by
  have h8 := sp_lt8 (c := c) ho
  have hp := sp_pc_le (s 2 c)
  have e : nI b + (14 : Int32) + nI c = nI (b + 14 + c) := rm_at (k := 14)
  have hv : M.1 221 (nI b + (14 : Int32) + nI c).toNatClampNeg = nI (s 2 c) := by rw [e, nI_clamp (by omega)]; exact (hs.2.2.1 c hc).2.2
  refine oX11_isTurned (sX11_isTurned_0 (Q0 := fun v M' => v = nI (sp_pc (s 2 c)) ∧ M' = M) hR (by rw [e]; exact vp_in_nI (by omega) (by decide)) (by rw [hv]; exact rm_bits (by omega)) ?_ ?_)
  · rintro x1 M1 ⟨rfl, rfl⟩ c1
    rw [show (1 : Int32) = nI 1 from rfl, nI_eq (by omega) (by omega)] at c1
    exact ⟨_, rfl, by simp [sp_turn, c1, b2i], rfl⟩
  · rintro x1 M1 ⟨rfl, rfl⟩ c1
    rw [show (1 : Int32) = nI 1 from rfl, nI_eq (by omega) (by omega)] at c1
    exact ⟨_, rfl, by simp [sp_turn, c1, b2i], rfl⟩
theorem rm_roomBy {c many : Nat} (hc : c < L 4 0) (hm : 0 < many) (hm9 : many < 2 ^ 31) (hR : pg_isX11 Λ) (hl : rm_L M L E) (hk : sp_okL L E) : pg_Ev S Λ YX11_roomBy (d + 1) [.ref 207, .int (nI c), .int (nI many)] M (fun r M' => ∃ v, r = some (.int v) ∧ (v = nI (sp_roomBy L c many) ∧ M' = M)) := by
  have h20 := (hk.2.1 c).2.1
  refine oX11_roomBy (sX11_roomBy_0 (Q0 := fun v M' => v = nI (L 1 c) ∧ M' = M) (Q1 := fun v M' => v = nI (L 1 c) ∧ M' = M) hR (fun _ => rm_clothOf (k := 1) hc (by decide) hR hl hk) ?_ (fun _ => rm_clothOf (k := 1) hc (by decide) hR hl hk) ?_)
  · rintro c1 x1 M1 ⟨rfl, rfl⟩
    rw [show (1 : Int32) = nI 1 from rfl, nI_eq hm9 (by omega)] at c1
    exact ⟨_, rfl, by simp [sp_roomBy, c1, show many ≠ 0 by omega], rfl⟩
  · rintro c1 x1 M1 ⟨rfl, rfl⟩
    rw [show (1 : Int32) = nI 1 from rfl, nI_eq hm9 (by omega)] at c1
    refine ⟨_, rfl, ?_, rfl⟩
    rw [show (2 : Int32) = nI 2 from rfl, pk_div (by omega) (by omega) (by omega), nI_1]
    simp [sp_roomBy, c1]
theorem sp_pc_pos {n : Nat} (hn : n < 65536) (h0 : ¬ n = 0) : 0 < sp_pc n := by
  unfold sp_pc
  rw [fb_ct_pos]
  obtain ⟨i, hi⟩ := Nat.exists_testBit_of_ne_zero h0
  refine ⟨i, ?_, hi⟩
  by_cases h16 : i < 16
  · exact h16
  · rw [Nat.testBit_lt_two_pow (Nat.lt_of_lt_of_le hn (Nat.pow_le_pow_right (n := 2) (by decide) (show 16 ≤ i by omega)))] at hi
    cases hi
theorem rm_roomLeft (hb : b + 28 ≤ 1242) (hR : pg_isX11 Λ) (hs : rm_S M b s) (hl : rm_L M L E) (hk : sp_okL L E) (ho : sp_okS L s h) : pg_Ev S Λ YX11_roomLeft (d + 2) [.ref 207, .int (nI b)] M (fun r M' => ∃ v, r = some (.int v) ∧ (v = sp_left L s ∧ M' = M)) := by
  have hc6 := hk.1
  refine oX11_roomLeft (sX11_roomLeft_0 hR ?_)
  rw [tn_3, hl.2.2.2.1]
  refine pg_loop (fun i (v : Int32) => pg_At S Λ YX11_roomLeft (d + 2) 9 [(0, .ref 207), (1, .int (nI b)), (2, .int v), (3, .int (nI i))] [] M _) (fun i v => v = nI (L 4 1) - nI (fb_sm (fun c => sp_roomBy L c (sp_pc (s 2 c))) i)) (L 4 0) ?_ ?_ 0 _ (Nat.zero_le _) ?_
  · rintro v rfl
    have c9 : nI (L 4 0) ≤ nI (L 4 0) := nI_le (Nat.le_refl _) (by omega)
    refine sX11_roomLeft_9 (Q0 := fun v M' => v = nI (L 4 0) ∧ M' = M) (Q1 := fun _ _ => True) (Q2 := fun _ _ => True) (Q3 := fun _ _ => True) hR (rm_cloths hR hl) ?_ ?_ ?_ ?_ ?_ ?_ ?_
    · rintro x1 M1 ⟨rfl, rfl⟩ _; exact ⟨_, rfl, rfl, rfl⟩
    all_goals (rintro x1 M1 ⟨rfl, rfl⟩ c; exact absurd c9 c)
  · rintro i v hi rfl ih
    have c9 : ¬ nI (L 4 0) ≤ nI i := nI_ge hi (by omega)
    have h8 := sp_lt8 (c := i) ho
    have e : nI b + (14 : Int32) + nI i = nI (b + 14 + i) := rm_at (k := 14)
    have hv : M.1 221 (nI b + (14 : Int32) + nI i).toNatClampNeg = nI (s 2 i) := by rw [e, nI_clamp (by omega)]; exact (hs.2.2.1 i (by omega)).2.2
    refine sX11_roomLeft_9 (Q0 := fun v M' => v = nI (L 4 0) ∧ M' = M) (Q1 := fun v M' => v = b2i (decide (¬ s 2 i = 0)) ∧ M' = M) (Q2 := fun v M' => v = nI (sp_pc (s 2 i)) ∧ M' = M) (Q3 := fun v M' => v = nI (sp_roomBy L i (sp_pc (s 2 i))) ∧ M' = M) hR (rm_cloths hR hl) ?_ ?_ ?_ ?_ ?_ ?_ ?_
    · rintro x1 M1 ⟨rfl, rfl⟩ c; exact absurd c c9
    · rintro x1 M1 ⟨rfl, rfl⟩ _; exact rm_isHung (by omega) hb hR hs ho
    · rintro x1 M1 ⟨rfl, rfl⟩ _ x2 M2 ⟨rfl, rfl⟩ c2
      rw [b2i_0, decide_eq_false_iff_not, Classical.not_not] at c2
      rw [nI_1]
      refine ih _ ?_
      rw [fb_sm_succ, c2]
      show _ = nI (L 4 1) - nI (_ + 0)
      simp
    · rintro x1 M1 ⟨rfl, rfl⟩ _ x2 M2 ⟨rfl, rfl⟩ c2; rw [e]; exact vp_in_nI (by omega) (by decide)
    · rintro x1 M1 ⟨rfl, rfl⟩ _ x2 M2 ⟨rfl, rfl⟩ c2; rw [hv]; exact rm_bits (by omega)
    · rintro x1 M1 ⟨rfl, rfl⟩ _ x2 M2 ⟨rfl, rfl⟩ c2 x3 M3 ⟨rfl, rfl⟩
      rw [b2i_0, decide_eq_false_iff_not, Classical.not_not] at c2
      exact rm_roomBy hi (sp_pc_pos (by omega) c2) (by have := sp_pc_le (s 2 i); omega) hR hl hk
    · rintro x1 M1 ⟨rfl, rfl⟩ _ x2 M2 ⟨rfl, rfl⟩ c2 x3 M3 ⟨rfl, rfl⟩ x4 M4 ⟨rfl, rfl⟩
      rw [nI_1]
      refine ih _ ?_
      rw [fb_sm_succ, ← nI_add]
      generalize nI (L 4 1) = x
      generalize nI (fb_sm _ i) = y
      generalize nI (sp_roomBy _ _ _) = z
      grind
  · show _ = nI (L 4 1) - nI 0
    rw [nI_0]
    simp
theorem rm_windOf {k : Nat} (g : Bool) (hkk : k < 2 ^ 31) (hR : pg_isX11 Λ) (hl : rm_L M L E) (hk : sp_okL L E) : pg_Ev S Λ YX11_windOf d [.ref 207, .int (nI k), .int (b2i g)] M (fun r M' => ∃ v, r = some (.int v) ∧ (v = nI (sp_wind L k + if g then 3 else 0) ∧ M' = M)) := by
  have hw := hk.2.2.2.2.1
  have hmod : k % L 4 3 < L 4 3 := Nat.mod_lt _ (by omega)
  have e : (76 : Int32) + (nI k - nI k / (M.1 213 (2 : Int32).toNatClampNeg) * (M.1 213 (2 : Int32).toNatClampNeg)) = nI (76 + k % L 4 3) := by
    rw [tn_2, hl.2.2.1, pk_rem hkk (by omega) (by omega), show (76 : Int32) = nI 76 from rfl, nI_add]
  refine oX11_windOf (sX11_windOf_0 hR (by rw [tn_2, hl.2.2.1]; exact nI_ne0 (by omega) (by omega)) (by rw [e]; exact vp_in_nI (by omega) (by decide)) (fun c => ?_) (fun c => ?_))
  · rw [b2i_0] at c
    refine ⟨_, rfl, ?_, rfl⟩
    rw [e, nI_clamp (by omega), hl.2.2.2.2.2.2.2.2.2.1 _ hmod, c, show (0 : Int32) = nI 0 from rfl, nI_add]
    rfl
  · have c' : g = true := ts_nf (fun q => c (b2i_0.mpr q))
    refine ⟨_, rfl, ?_, rfl⟩
    rw [e, nI_clamp (by omega), hl.2.2.2.2.2.2.2.2.2.1 _ hmod, c', show (3 : Int32) = nI 3 from rfl, nI_add]
    rfl
end PGR
