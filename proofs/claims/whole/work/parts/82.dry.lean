/-! dry: the specification, and the reference's rows -/
def sp_dat (L : sp_N) (E : sp_E) (s : sp_N) (c t : Nat) : Nat := match (List.range (99 - t)).find? (fun k => decide (sp_wetb L E c (s 4 1 + t) (k + 1) = 0)) with
  | some k => t + k + 1
  | none => 100
def sp_mn (A : Nat) (f : Nat → Nat) : Nat → Nat
  | 0 => 100
  | i + 1 => if A.testBit i then min (sp_mn A f i) (f i) else sp_mn A f i
def sp_clr (A c : Nat) : Nat := A ^^^ (A &&& 2 ^ c)
def sp_dv (D : Nat → Nat → Nat) (N : Nat) : Nat → Nat → Nat → Nat
  | 0, _, _ => 0
  | r + 1, A, n => sp_mn A (fun c => max (D c n) (sp_dv D N r (sp_clr A c) (n + 1))) N
def sp_fst (A : Nat) (f : Nat → Nat) (t i : Nat) : Option Nat := (List.range i).find? (fun c => A.testBit c && decide (f c ≤ t))
def sp_dg (D : Nat → Nat → Nat) (N t : Nat) : Nat → Nat → Nat → List Nat
  | 0, _, _ => []
  | r + 1, A, n => (sp_fst A (fun c => max (D c n) (sp_dv D N r (sp_clr A c) (n + 1))) t N).getD 0 :: sp_dg D N t r (sp_clr A ((sp_fst A (fun c => max (D c n) (sp_dv D N r (sp_clr A c) (n + 1))) t N).getD 0)) (n + 1)
def sp_wsh (L s : sp_N) : Nat := sp_mk (fun c => decide (s 2 c = 0) && decide (0 < s 1 c)) (L 4 0)
def sp_drT (L : sp_N) (E : sp_E) (s : sp_N) : Nat := sp_dv (sp_dat L E s) (L 4 0) (sp_pc (sp_wsh L s)) (sp_wsh L s) 0
def sp_drR (L : sp_N) (E : sp_E) (s : sp_N) : List Nat := sp_dg (sp_dat L E s) (L 4 0) (sp_drT L E s) (sp_pc (sp_wsh L s)) (sp_wsh L s) 0
def sp_qdry (G : sp_G) (w : Int32) : Int32 := match sp_ix (sp_pc (sp_wsh G.L G.s) + 1) w with
  | none => -1
  | some j => if 99 < sp_drT G.L G.E G.s then -1 else if j = 0 then nI (sp_drT G.L G.E G.s) else nI ((sp_drR G.L G.E G.s).getD (j - 1) 0)
theorem sp_dat_le {L : sp_N} {E : sp_E} {s : sp_N} {c t : Nat} : sp_dat L E s c t ≤ 100 := by
  unfold sp_dat
  cases h : (List.range (99 - t)).find? (fun k => decide (sp_wetb L E c (s 4 1 + t) (k + 1) = 0)) with
  | none => exact Nat.le_refl _
  | some k =>
    have := List.mem_range.mp (List.mem_of_find?_eq_some h)
    simp only
    omega
theorem sp_mn_le (A : Nat) (f : Nat → Nat) : ∀ i, sp_mn A f i ≤ 100 := by
  intro i
  induction i with
  | zero => exact Nat.le_refl _
  | succ i ih => simp only [sp_mn]; split <;> omega
theorem sp_mn_lb {A : Nat} {f : Nat → Nat} : ∀ i c, c < i → A.testBit c = true → sp_mn A f i ≤ f c := by
  intro i
  induction i with
  | zero => intro c hc; omega
  | succ i ih =>
    intro c hc hA
    simp only [sp_mn]
    by_cases e : c = i
    · subst e; rw [if_pos hA]; omega
    · have := ih c (by omega) hA
      split <;> omega
theorem sp_mn_at {A : Nat} {f : Nat → Nat} : ∀ i, sp_mn A f i < 100 → ∃ c, c < i ∧ A.testBit c = true ∧ f c = sp_mn A f i := by
  intro i
  induction i with
  | zero => intro h; exact absurd h (Nat.lt_irrefl _)
  | succ i ih =>
    intro h
    simp only [sp_mn] at h ⊢
    by_cases e : A.testBit i = true
    · rw [if_pos e] at h ⊢
      by_cases q : f i < sp_mn A f i
      · exact ⟨i, by omega, e, by omega⟩
      · obtain ⟨c, a, b, d⟩ := ih (by omega)
        exact ⟨c, by omega, b, by omega⟩
    · rw [if_neg e] at h ⊢
      obtain ⟨c, a, b, d⟩ := ih h
      exact ⟨c, by omega, b, d⟩
theorem sp_mn_cong {A : Nat} {f g : Nat → Nat} : ∀ i, (∀ c, c < i → A.testBit c = true → f c = g c) → sp_mn A f i = sp_mn A g i := by
  intro i
  induction i with
  | zero => intro _; rfl
  | succ i ih =>
    intro h
    simp only [sp_mn]
    rw [ih (fun c hc hA => h c (by omega) hA)]
    by_cases e : A.testBit i = true
    · rw [if_pos e, if_pos e, h i (by omega) e]
    · rw [if_neg e, if_neg e]
theorem sp_mn_max {A l : Nat} {f : Nat → Nat} (hl : l ≤ 100) : ∀ i, sp_mn A (fun c => max l (f c)) i = max l (sp_mn A f i) := by
  intro i
  induction i with
  | zero => simp only [sp_mn]; omega
  | succ i ih =>
    simp only [sp_mn]
    rw [ih]
    split <;> omega
theorem sp_dv_le {D : Nat → Nat → Nat} {N : Nat} : ∀ r A n, sp_dv D N r A n ≤ 100 := by
  intro r A n
  cases r with
  | zero => exact Nat.zero_le _
  | succ r => exact sp_mn_le _ _ _
theorem sp_fst_some {A : Nat} {f : Nat → Nat} {t i c : Nat} : sp_fst A f t i = some c ↔ (c < i ∧ A.testBit c = true ∧ f c ≤ t) ∧ ∀ j, j < c → A.testBit j = true → ¬ f j ≤ t := by
  unfold sp_fst
  rw [List.find?_range_eq_some]
  simp only [Bool.and_eq_true, decide_eq_true_eq, List.mem_range]
  constructor
  · rintro ⟨a, b, c⟩
    refine ⟨⟨b, a.1, a.2⟩, fun j hj hA hf => ?_⟩
    have := c j hj
    simp [hA, hf] at this
  · rintro ⟨⟨a, b, c⟩, d⟩
    refine ⟨⟨b, c⟩, a, fun j hj => ?_⟩
    cases q : A.testBit j with
    | false => simp
    | true => simpa using d j hj q
theorem sp_fst_ex {A : Nat} {f : Nat → Nat} {t i c : Nat} (hc : c < i) (hA : A.testBit c = true) (hf : f c ≤ t) : ∃ c, sp_fst A f t i = some c := by
  obtain ⟨k, a, b, d⟩ := fb_first (p := fun c => A.testBit c = true ∧ f c ≤ t) ⟨c, hc, hA, hf⟩
  exact ⟨k, sp_fst_some.mpr ⟨⟨a, b⟩, fun j hj hA hf => d j hj ⟨hA, hf⟩⟩⟩
theorem sp_fst_cong {A : Nat} {f g : Nat → Nat} {t i : Nat} (h : ∀ c, c < i → A.testBit c = true → (f c ≤ t ↔ g c ≤ t)) : sp_fst A f t i = sp_fst A g t i := by
  cases h1 : sp_fst A g t i with
  | some c =>
    obtain ⟨⟨a, b, e⟩, d⟩ := sp_fst_some.mp h1
    exact sp_fst_some.mpr ⟨⟨a, b, (h c a b).mpr e⟩, fun j hj hA hf => d j hj hA ((h j (by omega) hA).mp hf)⟩
  | none =>
    cases h2 : sp_fst A f t i with
    | none => rfl
    | some c =>
      obtain ⟨⟨a, b, e⟩, d⟩ := sp_fst_some.mp h2
      obtain ⟨k, hk⟩ := sp_fst_ex (f := g) (t := t) a b ((h c a b).mp e)
      rw [h1] at hk; cases hk
theorem sp_clr_bit (A c i : Nat) : (sp_clr A c).testBit i = (A.testBit i && decide (i ≠ c)) := by
  unfold sp_clr
  rw [Nat.testBit_xor, Nat.testBit_and, Nat.testBit_two_pow]
  by_cases e : i = c
  · subst e; simp
  · rw [decide_eq_false (show ¬ c = i from fun z => e z.symm)]; simp [e]
theorem sp_pc_clr {A c : Nat} (hc : c < 16) (hA : A.testBit c = true) : sp_pc (sp_clr A c) + 1 = sp_pc A := by
  unfold sp_pc
  have h1 := fb_ct_upd (fun k => A.testBit k) false (i := c) (n := 16) hc
  simp only [hA, if_true] at h1
  have h2 : fb_ct (fun k => (sp_clr A c).testBit k) 16 = fb_ct (fun k => if k = c then false else A.testBit k) 16 := fb_ct_cong (fun k hk => by
    rw [sp_clr_bit]
    by_cases e : k = c
    · subst e; simp
    · simp [e])
  rw [h2]
  simpa using h1
theorem sp_wsh_lt {L : sp_N} {E : sp_E} {s : sp_N} (hk : sp_okL L E) : sp_wsh L s < 64 := Nat.lt_of_lt_of_le (sp_mk_lt _ _) (Nat.pow_le_pow_right (n := 2) (by decide) (show L 4 0 ≤ 6 from hk.1))
theorem sp_wsh_bit (L s : sp_N) (c : Nat) : (sp_wsh L s).testBit c = (decide (c < L 4 0) && (decide (s 2 c = 0) && decide (0 < s 1 c))) := sp_mk_bit _ _ _
theorem sp_pc_6 {A : Nat} (h : A < 64) : sp_pc A ≤ 6 := by
  unfold sp_pc
  rw [show 16 = 6 + 10 from rfl, fb_ct_split]
  have h1 : fb_ct (fun k => A.testBit (6 + k)) 10 = 0 := by
    rw [fb_ct_zero]; intro k hk
    exact Nat.testBit_lt_two_pow (Nat.lt_of_lt_of_le h (Nat.pow_le_pow_right (n := 2) (by decide) (show 6 ≤ 6 + k by omega)))
  have := fb_ct_le (fun k => A.testBit k) 6
  omega
theorem sp_dg_len {D : Nat → Nat → Nat} {N t : Nat} : ∀ r A n, (sp_dg D N t r A n).length = r := by
  intro r
  induction r with
  | zero => intro A n; rfl
  | succ r ih => intro A n; simp only [sp_dg, List.length_cons]; rw [ih]
/-- the first hour by which it is dry, looked for from a turn on -/
theorem sp_dat_step {L : sp_N} {E : sp_E} {s : sp_N} {c t k : Nat} (hk : t + k < 99) (hb : ∀ j, j < k → ¬ sp_wetb L E c (s 4 1 + t) (j + 1) = 0) (hz : sp_wetb L E c (s 4 1 + t) (k + 1) = 0) : sp_dat L E s c t = t + k + 1 := by
  unfold sp_dat
  have : (List.range (99 - t)).find? (fun k => decide (sp_wetb L E c (s 4 1 + t) (k + 1) = 0)) = some k := by
    rw [List.find?_range_eq_some]
    exact ⟨by simp [hz], by simp; omega, fun j hj => by simpa using hb j hj⟩
  rw [this]
theorem sp_dat_late {L : sp_N} {E : sp_E} {s : sp_N} {c t k : Nat} (hk : 99 ≤ t + k) (hb : ∀ j, j < k → ¬ sp_wetb L E c (s 4 1 + t) (j + 1) = 0) : sp_dat L E s c t = 100 := by
  unfold sp_dat
  have : (List.range (99 - t)).find? (fun k => decide (sp_wetb L E c (s 4 1 + t) (k + 1) = 0)) = none := by
    rw [List.find?_range_eq_none]
    intro j hj
    simpa using hb j (by omega)
  rw [this]
section PGR
variable {S : pg_S} {Λ : pg_L} {d h : Nat} {M : pg_M} {G : sp_G} {L s : sp_N} {E : sp_E}
theorem rm_driedBehind {c t : Nat} (hc : c < L 4 0) (ht : t < 6) (hh : h < 2 ^ 29) (hR : pg_isX11 Λ) (hs : rm_S M 0 s) (hl : rm_L M L E) (hk : sp_okL L E) (ho : sp_okS L s h) : pg_Ev S Λ YX11_driedBehind (d + 3) [.ref 207, .int (nI c), .int (nI t)] M (fun r M' => ∃ v, r = some (.int v) ∧ (v = nI (sp_dat L E s c t) ∧ pg_fr [219, 220] M M')) := by
  have h41 := ho.2.1
  refine oX11_driedBehind (sX11_driedBehind_0 ?_)
  refine pg_loop (fun k (m : pg_M) => pg_At S Λ YX11_driedBehind (d + 3) 6 [(0, .ref 207), (1, .int (nI c)), (3, .int (nI (sp_wetb L E c (s 4 1 + t) k))), (4, .int (nI (t + k)))] [] m _) (fun k m => pg_fr [219, 220] M m ∧ ∀ j, j < k → ¬ sp_wetb L E c (s 4 1 + t) j = 0) (100 - t) ?_ ?_ 0 M (Nat.zero_le _) ⟨pg_fr.rfl', fun j hj => by omega⟩
  · rintro m ⟨m1, m2⟩
    have wl := sp_wetb_le (L := L) (E := E) (c := c) (start := s 4 1 + t) (100 - t)
    have e : sp_dat L E s c t = 100 := sp_dat_late (k := 99 - t) (by omega) (fun j hj => m2 (j + 1) (by omega))
    have e100 : t + (100 - t) = 100 := by omega
    rw [e100]
    have z : (nI (sp_wetb L E c (s 4 1 + t) (100 - t)) ≤ 0) ↔ sp_wetb L E c (s 4 1 + t) (100 - t) = 0 := by rw [← nI_0, nI_leI (by omega) (by omega)]; omega
    have c9 : (100 : Int32) ≤ nI 100 := by decide
    refine sX11_driedBehind_6 (Q0 := fun _ _ => True) (Q1 := fun _ _ => True) hR ?_ ?_ ?_ ?_ (fun _ c => absurd c9 c) (fun _ c => absurd c9 c) (fun _ c => absurd c9 c)
    · intro _ _; exact ⟨_, rfl, by rw [e], m1⟩
    · intro _ _; exact ⟨_, rfl, by rw [e]; rfl, m1⟩
    · intro _ _ _; exact ⟨_, rfl, by rw [e], m1⟩
    · intro _ _ _; exact ⟨_, rfl, by rw [e]; rfl, m1⟩
  · rintro k m hk1 ⟨m1, m2⟩ ih
    have wl := sp_wetb_le (L := L) (E := E) (c := c) (start := s 4 1 + t) k
    have z : (nI (sp_wetb L E c (s 4 1 + t) k) ≤ 0) ↔ sp_wetb L E c (s 4 1 + t) k = 0 := by rw [← nI_0, nI_leI (by omega) (by omega)]; omega
    have c9 : ¬ (100 : Int32) ≤ nI (t + k) := nI_ge (b := 100) (by omega) (by decide)
    have hsm : rm_S m 0 s := hs.keep m1 (by simp)
    have hlm : rm_L m L E := hl.ev m1
    refine sX11_driedBehind_6 (Q0 := fun v M' => v = nI (sp_wind L (s 4 1 + t + k) + if false then 3 else 0) ∧ M' = m) (Q1 := fun v M' => v = nI (sp_wetb L E c (s 4 1 + t) (k + 1)) ∧ pg_fr [219, 220] m M') hR ?_ ?_ ?_ ?_ ?_ ?_ ?_
    · intro q _
      rw [z] at q
      cases k with
      | zero => exact absurd q (by simp [sp_wetb])
      | succ k =>
        have e := sp_dat_step (L := L) (E := E) (s := s) (c := c) (t := t) (k := k) (by omega) (fun j hj => m2 (j + 1) (by omega)) q
        exact ⟨_, rfl, by rw [e]; rfl, m1⟩
    · intro q q2; exact absurd q q2
    · intro q _ q2; exact absurd q2 q
    · intro _ q; exact absurd q c9
    · intro _ _
      rw [show m.1 221 (0 : Int32).toNatClampNeg = nI (s 4 1) from hsm.1, nI_add, show s 4 1 + (t + k) = s 4 1 + t + k by omega]
      exact pg_Ev.mono (by omega) (rm_windOf (d := 0) false (by omega) hR hlm hk)
    · rintro _ _ v M1 ⟨rfl, rfl⟩
      exact rm_driedOf hc (by omega) hR hlm hk
    · rintro q _ v M1 _ v2 M2 ⟨rfl, f2⟩
      rw [z] at q
      rw [nI_1, show t + k + 1 = t + (k + 1) by omega]
      refine ih M2 ⟨m1.trans f2, fun j hj => ?_⟩
      by_cases e : j = k
      · subst e; exact q
      · exact m2 j (by omega)
/-- what a search for a row leaves as it was -/
def rm_wf (n : Nat) (M M' : pg_M) : Prop := pg_fr [207, 228, 229] M M' ∧ (∀ j, j ≠ 34 → M'.1 207 j = M.1 207 j) ∧ ∀ j, j < n → M'.1 228 j = M.1 228 j
theorem rm_wf.rfl' {n : Nat} {M : pg_M} : rm_wf n M M := ⟨pg_fr.rfl', fun _ _ => rfl, fun _ _ => rfl⟩
theorem rm_wf.trans {n : Nat} {M M1 M2 : pg_M} (h : rm_wf n M M1) (h2 : rm_wf n M1 M2) : rm_wf n M M2 := ⟨h.1.trans h2.1, fun j hj => (h2.2.1 j hj).trans (h.2.1 j hj), fun j hj => (h2.2.2 j hj).trans (h.2.2 j hj)⟩
def rm_row (M : pg_M) (n : Nat) (pre : Nat → Int32) (lst : List Nat) : Prop := (∀ j, j < n → M.1 229 j = pre j) ∧ ∀ k x, lst[k]? = some x → M.1 229 (n + k) = nI x
theorem rm_washesFrom {D : Nat → Nat → Nat} {W : Nat} (hW : W < 64) (hD : ∀ c n, D c n ≤ 100) (hWL : ∀ c, W.testBit c = true → c < L 4 0) (hR : pg_isX11 Λ) (hk : sp_okL L E) : ∀ (r A n lt s0 : Nat) (M : pg_M), sp_pc A = r → n + r ≤ 6 → (∀ c, A.testBit c = true → W.testBit c = true) → lt ≤ 100 → s0 ≤ 100 → rm_L M L E → M.1 207 34 = nI s0 → M.1 207 35 = nI W → (∀ c k, c < L 4 0 → k < 6 → M.1 227 (6 * c + k) = nI (D c k)) →
    pg_Ev S Λ YX11_washesFrom (d + 1 + r) [.ref 207, .int (nI n), .int (nI (W ^^^ A)), .int (nI lt)] M (fun q M' => q = none ∧ (M'.1 207 34 = nI (min s0 (max lt (sp_dv D (L 4 0) r A n))) ∧ (max lt (sp_dv D (L 4 0) r A n) < s0 → rm_row M' n (M.1 228) (sp_dg D (L 4 0) (max lt (sp_dv D (L 4 0) r A n)) r A n)) ∧ (¬ max lt (sp_dv D (L 4 0) r A n) < s0 → M'.1 229 = M.1 229) ∧ rm_wf n M M')) := by
  have h6 := hk.1
  intro r
  induction r with
  | zero =>
    intro A n lt s0 M hpc hn6 hAW hlt hs0 hl m34 m35 mD
    have hA0 : A = 0 := by
      apply Nat.eq_of_testBit_eq
      intro i
      rw [Nat.zero_testBit]
      cases q : A.testBit i with
      | false => rfl
      | true =>
        have i6 := hWL i (hAW i q)
        have := fb_ct_zero.mp hpc i (by omega)
        rw [q] at this; cases this
    subst hA0
    rw [Nat.xor_zero]
    simp only [sp_dv, sp_dg, Nat.max_zero]
    refine oX11_washesFrom (d := d + 1) (sX11_washesFrom_0 hR (fun q => absurd m35.symm q) (fun _ q => ?_) (fun _ q => ?_))
    · rw [m34, nI_leI (by omega) (by omega)] at q
      exact ⟨rfl, by rw [m34, Nat.min_eq_left q], fun z => by omega, fun _ => rfl, rm_wf.rfl'⟩
    · rw [m34, nI_leI (by omega) (by omega)] at q
      refine pg_loop (fun i (m : pg_M) => pg_At S Λ YX11_washesFrom (d + 1) 24 [(0, .ref 207), (1, .int (nI n)), (4, .int (nI i))] [] m _) (fun i m => m.1 207 34 = nI lt ∧ (∀ j, j < i → m.1 229 j = M.1 228 j) ∧ m.1 228 = M.1 228 ∧ rm_wf n M m) n ?_ ?_ 0 _ (Nat.zero_le _) ⟨by rw [pg_si_at, pk_us], fun j hj => by omega, pg_si_ne (by decide), pg_fr.si (by simp), fun j hj => by rw [pg_si_at, pk_un hj], fun j _ => by rw [pg_si_ne (by decide)]⟩
      · rintro m ⟨a1, a2, a3, a4⟩
        have c9 : nI n ≤ nI n := nI_le (Nat.le_refl _) (by omega)
        refine sX11_washesFrom_24 hR (fun _ => ⟨rfl, by rw [a1, Nat.min_eq_right (by omega)], fun _ => ⟨a2, fun k x hx => by simp at hx⟩, fun z => by omega, a4⟩) (fun c => absurd c9 c) (fun c => absurd c9 c)
      · rintro i m hi ⟨a1, a2, a3, a4⟩ ih
        have c9 : ¬ nI n ≤ nI i := nI_ge hi (by omega)
        refine sX11_washesFrom_24 hR (fun c => absurd c c9) (fun _ => vp_in_nI (by omega) (by decide)) (fun _ => ?_)
        rw [nI_1, nI_clamp (by omega), a3]
        refine ih _ ⟨by rw [pg_si_ne (by decide)]; exact a1, fun j hj => ?_, by rw [pg_si_ne (by decide)]; exact a3, a4.trans ⟨pg_fr.si (by simp), fun j _ => by rw [pg_si_ne (by decide)], fun j _ => by rw [pg_si_ne (by decide)]⟩⟩
        rw [pg_si_at]
        by_cases e : j = i
        · subst e; rw [pk_us]
        · rw [pk_un e]; exact a2 j (by omega)
  | succ r ihr =>
    intro A n lt s0 M hpc hn6 hAW hlt hs0 hl m34 m35 mD
    obtain ⟨c0, hc0, hA0⟩ : ∃ c, c < 16 ∧ A.testBit c = true := (fb_ct_pos (p := fun k => A.testBit k) (n := 16)).mp (by have : sp_pc A = r + 1 := hpc; unfold sp_pc at this; omega)
    have hAW64 : W ^^^ A < 2 ^ 6 := by
      refine Nat.xor_lt_two_pow (by omega) ?_
      apply Nat.lt_pow_two_of_testBit
      intro i hi
      cases q : A.testBit i with
      | false => rfl
      | true => have := hWL i (hAW i q); omega
    have hne : ¬ nI (W ^^^ A) = M.1 207 35 := by
      rw [m35, nI_eq (by omega) (by omega)]
      intro e
      have := congrArg (fun z => Nat.testBit z c0) e
      simp only [Nat.testBit_xor, hA0, hAW c0 hA0] at this
      cases this
    have fdef : ∀ c, (fun c => max lt (max (D c n) (sp_dv D (L 4 0) r (sp_clr A c) (n + 1)))) c = max (max lt (D c n)) (sp_dv D (L 4 0) r (sp_clr A c) (n + 1)) := fun c => by simp only; omega
    have hmax : sp_mn A (fun c => max lt (max (D c n) (sp_dv D (L 4 0) r (sp_clr A c) (n + 1)))) (L 4 0) = max lt (sp_dv D (L 4 0) (r + 1) A n) := sp_mn_max hlt _
    generalize hX : (fun c => max lt (max (D c n) (sp_dv D (L 4 0) r (sp_clr A c) (n + 1)))) = X at fdef hmax
    refine oX11_washesFrom (d := d + 1 + r + 1) (sX11_washesFrom_0 hR (fun _ => ?_) (fun q => absurd q hne) (fun q => absurd q hne))
    refine pg_loop (fun i (m : pg_M) => pg_At S Λ YX11_washesFrom (d + 1 + r + 1) 54 [(0, .ref 207), (1, .int (nI n)), (2, .int (nI (W ^^^ A))), (3, .int (nI lt)), (4, .int (nI i))] [] m _) (fun i m => m.1 207 34 = nI (min s0 (sp_mn A X i)) ∧ (sp_mn A X i < s0 → ∃ c, sp_fst A X (sp_mn A X i) i = some c ∧ rm_row m n (M.1 228) (c :: sp_dg D (L 4 0) (sp_mn A X i) r (sp_clr A c) (n + 1))) ∧ (¬ sp_mn A X i < s0 → m.1 229 = M.1 229) ∧ rm_wf n M m) (L 4 0) ?_ ?_ 0 M (Nat.zero_le _) ⟨by rw [m34]; simp only [sp_mn]; rw [Nat.min_eq_left hs0], fun z => by simp only [sp_mn] at z; omega, fun _ => rfl, rm_wf.rfl'⟩
    · rintro m ⟨a1, a2, a3, a4⟩
      have hlm : rm_L m L E := hl.keep a4.1 (by simp) (by simp) (by simp)
      have c9 : nI (L 4 0) ≤ nI (L 4 0) := nI_le (Nat.le_refl _) (by omega)
      rw [hmax] at a1 a2 a3
      refine sX11_washesFrom_54 (Q0 := fun v M' => v = nI (L 4 0) ∧ M' = m) (Q1 := fun _ => True) (Q2 := fun _ => True) hR (rm_cloths hR hlm) ?_ ?_ ?_ ?_ ?_ ?_ ?_ ?_ ?_
      · rintro v M1 ⟨rfl, rfl⟩ _
        refine ⟨rfl, a1, fun z => ?_, a3, a4⟩
        obtain ⟨c, b1, b2⟩ := a2 z
        have e1 : sp_fst A (fun c => max (D c n) (sp_dv D (L 4 0) r (sp_clr A c) (n + 1))) (max lt (sp_dv D (L 4 0) (r + 1) A n)) (L 4 0) = some c := by
          rw [← b1]
          refine sp_fst_cong (fun c' _ _ => ?_)
          rw [← hX]
          simp only
          omega
        simp only [sp_dg]
        rw [e1]
        exact b2
      all_goals (rintro v M1 ⟨rfl, rfl⟩ c; exact absurd c9 c)
    · rintro i m hi ⟨a1, a2, a3, a4⟩ ih
      have hlm : rm_L m L E := hl.keep a4.1 (by simp) (by simp) (by simp)
      have c9 : ¬ nI (L 4 0) ≤ nI i := nI_ge hi (by omega)
      have t35 : m.1 207 35 = nI W := by rw [a4.2.1 35 (by decide)]; exact m35
      have b1 := nb_bit' (n := W) (k := i) (by omega) (by omega)
      have b2 := nb_bit (n := W ^^^ A) (k := i) (by omega) (by omega)
      have tD : ∀ c k, c < L 4 0 → k < 6 → m.1 227 (6 * c + k) = nI (D c k) := fun c k h1 h2 => by rw [a4.1.1 227 (by simp)]; exact mD c k h1 h2
      have hix : (6 : Int32) * nI i + nI n = nI (6 * i + n) := by rw [show (6 : Int32) = nI 6 from rfl, pk_mul, nI_add]
      have skip : A.testBit i = false → pg_At S Λ YX11_washesFrom (d + 1 + r + 1) 54 [(0, .ref 207), (1, .int (nI n)), (2, .int (nI (W ^^^ A))), (3, .int (nI lt)), (4, .int (nI i + 1))] [] m (fun q M' => q = none ∧ (M'.1 207 34 = nI (min s0 (max lt (sp_dv D (L 4 0) (r + 1) A n))) ∧ (max lt (sp_dv D (L 4 0) (r + 1) A n) < s0 → rm_row M' n (M.1 228) (sp_dg D (L 4 0) (max lt (sp_dv D (L 4 0) (r + 1) A n)) (r + 1) A n)) ∧ (¬ max lt (sp_dv D (L 4 0) (r + 1) A n) < s0 → M'.1 229 = M.1 229) ∧ rm_wf n M M')) := fun q => by
        rw [nI_1]
        have e : sp_mn A X (i + 1) = sp_mn A X i := by simp only [sp_mn]; rw [q]; rfl
        refine ih m ⟨by rw [e]; exact a1, fun z => ?_, by rw [e]; exact a3, a4⟩
        rw [e] at z ⊢
        obtain ⟨c, f1, f2⟩ := a2 z
        refine ⟨c, ?_, f2⟩
        obtain ⟨⟨g1, g2, g3⟩, g4⟩ := sp_fst_some.mp f1
        exact sp_fst_some.mpr ⟨⟨by omega, g2, g3⟩, g4⟩
      have bA : A.testBit i = true ↔ (W.testBit i = true ∧ (W ^^^ A).testBit i = false) := by
        rw [Nat.testBit_xor]
        constructor
        · intro q; rw [hAW i q, q]; exact ⟨rfl, rfl⟩
        · rintro ⟨q1, q2⟩; rw [q1] at q2; cases hA : A.testBit i <;> rw [hA] at q2 <;> simp at q2 ⊢
      -- the call
      have mnle := sp_mn_le A X i
      have child : A.testBit i = true → ∀ lt', lt' = max lt (D i n) → pg_Ev S Λ YX11_washesFrom (d + 1 + r) [.ref 207, .int (nI n + 1), .int (nI (W ^^^ A) ||| ((1 : Int32) <<< (nI i &&& 31))), .int (nI lt')] (pg_si m 228 (nI n).toNatClampNeg (nI i)) (fun q M' => q = none ∧ (M'.1 207 34 = nI (min s0 (sp_mn A X (i + 1))) ∧ (sp_mn A X (i + 1) < s0 → ∃ c, sp_fst A X (sp_mn A X (i + 1)) (i + 1) = some c ∧ rm_row M' n (M.1 228) (c :: sp_dg D (L 4 0) (sp_mn A X (i + 1)) r (sp_clr A c) (n + 1))) ∧ (¬ sp_mn A X (i + 1) < s0 → M'.1 229 = M.1 229) ∧ rm_wf n M M')) := by
        rintro q lt' rfl
        have hset : W ^^^ A ||| 2 ^ i = W ^^^ sp_clr A i := by
          apply Nat.eq_of_testBit_eq
          intro j
          rw [Nat.testBit_or, Nat.testBit_xor, Nat.testBit_xor, sp_clr_bit, Nat.testBit_two_pow]
          by_cases e : j = i
          · subst e; rw [hAW j q, q]; simp
          · rw [decide_eq_false (show ¬ i = j from fun z => e z.symm)]; simp [e]
        rw [nI_1, nb_set (by omega), hset, nI_clamp (by omega)]
        have hpc' : sp_pc (sp_clr A i) = r := by have := sp_pc_clr (A := A) (c := i) (by omega) q; omega
        have hXi : X i = max (max lt (D i n)) (sp_dv D (L 4 0) r (sp_clr A i) (n + 1)) := fdef i
        have mnx : sp_mn A X (i + 1) = min (sp_mn A X i) (X i) := by simp only [sp_mn]; rw [if_pos q]
        refine pg_Ev.imp ?_ (ihr (sp_clr A i) (n + 1) (max lt (D i n)) (min s0 (sp_mn A X i)) (pg_si m 228 n (nI i)) hpc' (by omega) (fun c z => by rw [sp_clr_bit, Bool.and_eq_true] at z; exact hAW c z.1) (by have := hD i n; omega) (by omega) (hlm.keep (pg_fr.si (X := [228]) (by simp)) (by simp) (by simp) (by simp)) (by rw [pg_si_ne (by decide)]; exact a1) (by rw [pg_si_ne (by decide)]; exact t35) (fun c k h1 h2 => by rw [pg_si_ne (by decide)]; exact tD c k h1 h2))
        rintro q2 M2 ⟨e1, e2, e3, e4, e5⟩
        rw [← hXi] at e2 e3 e4
        have wf : rm_wf n M M2 := by
          refine a4.trans ⟨(pg_fr.si (by simp)).trans e5.1, fun j hj => ?_, fun j hj => ?_⟩
          · rw [e5.2.1 j hj, pg_si_ne (by decide)]
          · rw [e5.2.2 j (by omega), pg_si_at, pk_un (by omega)]
        refine ⟨e1, by rw [e2, mnx]; congr 1; omega, fun z => ?_, fun z => ?_, wf⟩
        · by_cases lt2 : X i < min s0 (sp_mn A X i)
          · have em : sp_mn A X (i + 1) = X i := by rw [mnx]; omega
            rw [em]
            obtain ⟨r1, r2⟩ := e3 lt2
            refine ⟨i, sp_fst_some.mpr ⟨⟨by omega, q, Nat.le_refl _⟩, fun j hj hA hf => ?_⟩, fun j hj => ?_, fun k x hx => ?_⟩
            · have := sp_mn_lb (f := X) i j hj hA; omega
            · rw [r1 j (by omega), pg_si_at, pk_un (by omega)]; exact a4.2.2 j hj
            · cases k with
              | zero => simp at hx; rw [← hx, Nat.add_zero, r1 n (by omega), pg_si_at, pk_us]
              | succ k => rw [show n + (k + 1) = (n + 1) + k by omega]; exact r2 k x (by simpa using hx)
          · have em : sp_mn A X (i + 1) = sp_mn A X i := by rw [mnx]; omega
            rw [em] at z ⊢
            obtain ⟨c, f1, f2⟩ := a2 z
            have e4' := e4 lt2
            rw [pg_si_ne (by decide)] at e4'
            obtain ⟨⟨g1, g2, g3⟩, g4⟩ := sp_fst_some.mp f1
            refine ⟨c, sp_fst_some.mpr ⟨⟨by omega, g2, g3⟩, g4⟩, ?_⟩
            unfold rm_row
            rw [e4']
            exact f2
        · have lt2 : ¬ X i < min s0 (sp_mn A X i) := by omega
          have e4' := e4 lt2
          rw [pg_si_ne (by decide)] at e4'
          rw [e4']
          exact a3 (by omega)
      refine sX11_washesFrom_54 (Q0 := fun v M' => v = nI (L 4 0) ∧ M' = m) (Q1 := fun M' => M'.1 207 34 = nI (min s0 (sp_mn A X (i + 1))) ∧ (sp_mn A X (i + 1) < s0 → ∃ c, sp_fst A X (sp_mn A X (i + 1)) (i + 1) = some c ∧ rm_row M' n (M.1 228) (c :: sp_dg D (L 4 0) (sp_mn A X (i + 1)) r (sp_clr A c) (n + 1))) ∧ (¬ sp_mn A X (i + 1) < s0 → M'.1 229 = M.1 229) ∧ rm_wf n M M') (Q2 := fun M' => M'.1 207 34 = nI (min s0 (sp_mn A X (i + 1))) ∧ (sp_mn A X (i + 1) < s0 → ∃ c, sp_fst A X (sp_mn A X (i + 1)) (i + 1) = some c ∧ rm_row M' n (M.1 228) (c :: sp_dg D (L 4 0) (sp_mn A X (i + 1)) r (sp_clr A c) (n + 1))) ∧ (¬ sp_mn A X (i + 1) < s0 → M'.1 229 = M.1 229) ∧ rm_wf n M M') hR (rm_cloths hR hlm) ?_ ?_ ?_ ?_ ?_ ?_ ?_ ?_ ?_
      · rintro v M1 ⟨rfl, rfl⟩ c; exact absurd c c9
      · rintro v M1 ⟨rfl, rfl⟩ _ q
        rw [t35, b1] at q
        exact skip (ts_nt (fun z => q (bA.mp z).1))
      · rintro v M1 ⟨rfl, rfl⟩ _ _ q
        rw [b2] at q
        exact skip (ts_nt (fun z => q (bA.mp z).2))
      · rintro v M1 ⟨rfl, rfl⟩ _ _ _; rw [hix]; exact vp_in_nI (by omega) (by decide)
      · rintro v M1 ⟨rfl, rfl⟩ _ _ _; exact vp_in_nI (by omega) (by decide)
      · rintro v M1 ⟨rfl, rfl⟩ _ q1 q2 q3
        rw [t35, b1] at q1
        rw [b2] at q2
        rw [hix, nI_clamp (by omega), tD i n hi (by omega), nI_leI (by have := hD i n; omega) (by omega)] at q3
        exact child (bA.mpr ⟨q1, q2⟩) lt (by omega)
      · rintro v M1 ⟨rfl, rfl⟩ _ _ _ _ M2 q; rw [nI_1]; exact ih M2 q
      · rintro v M1 ⟨rfl, rfl⟩ _ q1 q2 q3
        rw [t35, b1] at q1
        rw [b2] at q2
        rw [hix, nI_clamp (by omega), tD i n hi (by omega)] at q3 ⊢
        rw [nI_leI (by have := hD i n; omega) (by omega)] at q3
        exact child (bA.mpr ⟨q1, q2⟩) (D i n) (by omega)
      · rintro v M1 ⟨rfl, rfl⟩ _ _ _ _ M2 q; rw [nI_1]; exact ih M2 q
end PGR
