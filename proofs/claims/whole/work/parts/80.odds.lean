/-! odds: both -/
theorem sp_div_T {T n : Nat} (hn : n ≤ 8) (hT : T ≤ 10 ^ n) : ((lN T * 1000000) / lN (10 ^ n)).toInt32 = nI (T * 1000000 / 10 ^ n) := by
  have h1 : 10 ^ n ≤ 10 ^ 8 := Nat.pow_le_pow_right (by decide) hn
  have h0 : 0 < 10 ^ n := Nat.pow_pos (by decide)
  rw [show (1000000 : Int64) = lN 1000000 from rfl, lo_mul, lo_div (by omega) (by omega)]
  have : T * 1000000 / 10 ^ n ≤ 1000000 := by
    apply Nat.div_le_of_le_mul
    exact Nat.mul_le_mul_right _ hT
  exact lo_to (by omega)
def sp_st2 (L : sp_N) (E : sp_E) (s : sp_N) (c dp : Nat) (f : Nat → Nat → Nat) (x : Nat) : Nat := (10 - L 4 2) * sp_chs L E s c (x / 10) (x % 10) (sp_wind L (s 4 1 + dp)) f + L 4 2 * sp_chs L E s c (x / 10) (x % 10) (sp_wind L (s 4 1 + dp) + 3) f
theorem sp_grips_10 {L s : sp_N} {h c : Nat} (ho : sp_okS L s h) {w : Nat} (hw : 10 ≤ w + 1) : sp_grips s (s 2 c) (w + 1) = 0 := by
  unfold sp_grips
  refine fb_sm_eq0 (fun p hp => ?_)
  have := ho.2.2.2.1 p
  split <;> omega
theorem pg_sl2_at (M : pg_M) (a : Nat) (f : Nat → Int64) : (pg_sl2 M a f).2.1 a = f := by simp [pg_sl2]
theorem pg_sl2_ne {M : pg_M} {a b : Nat} {f : Nat → Int64} (h : b ≠ a) : (pg_sl2 M a f).2.1 b = M.2.1 b := by simp [pg_sl2, h]
theorem pg_uL {f : Nat → Int64} {k : Nat} {x : Int64} : vp_updL f k x k = x := by simp [vp_updL]
theorem pg_uLn {f : Nat → Int64} {k j : Nat} {x : Int64} (h : j ≠ k) : vp_updL f k x j = f j := by simp [vp_updL, h]
section PGR
variable {S : pg_S} {Λ : pg_L} {d h l : Nat} {M : pg_M} {G : sp_G} {L s : sp_N} {E : sp_E}
theorem rm_odds {x y : Int32} (hh : h < 2 ^ 29) (hR : pg_isX11 Λ) (hg : rm_G M G) (hk : sp_okG G h) : pg_Ev S Λ YX11_odds (d + 20) [.ref 207, .int x, .int y] M (fun r M' => ∃ v, r = some (.int v) ∧ (v = sp_qodds G x y ∧ rm_G M' G ∧ pg_fr rm_X M M')) := by
  have hg0 := hg.th
  have h6 := hk.l.1
  have h8 := hk.s.1.1
  have wy : (¬ y < 1 ∧ ¬ (8 : Int32) < y) ↔ (∃ n, n < 9 ∧ 0 < n ∧ y = nI n) := by
    constructor
    · rintro ⟨a, b⟩
      have a0 : ¬ y < 0 := fun q => a (by rw [fa_lt] at q ⊢; have e0 : (0 : Int32).toInt = 0 := rfl; have e1 : (1 : Int32).toInt = 1 := rfl; omega)
      obtain ⟨k, hk1, rfl⟩ := nI_of a0
      rw [show (1 : Int32) = nI 1 from rfl, nI_ltI (by omega) (by omega)] at a
      rw [show (8 : Int32) = nI 8 from rfl, nI_ltI (by omega) (by omega)] at b
      exact ⟨k, by omega, by omega, rfl⟩
    · rintro ⟨n, a, b, rfl⟩
      rw [show (1 : Int32) = nI 1 from rfl, nI_ltI (by omega) (by omega), show (8 : Int32) = nI 8 from rfl, nI_ltI (by omega) (by omega)]
      omega
  have no : sp_ix (G.L 4 0) x = none → sp_qodds G x y = -1 := fun q => by unfold sp_qodds; rw [q]
  have no2 : (¬ ∃ n, n < 9 ∧ 0 < n ∧ y = nI n) → sp_qodds G x y = -1 := fun q => by
    unfold sp_qodds
    cases sp_ix (G.L 4 0) x with
    | none => rfl
    | some c =>
      cases hi : sp_ix 9 y with
      | none => rfl
      | some n =>
        obtain ⟨a, e⟩ := (sp_ix_some (by decide)).mp hi
        have : n = 0 := Nat.eq_zero_of_not_pos (fun z => q ⟨n, a, z, e⟩)
        simp [this]
  refine oX11_odds (sX11_odds_0 (Q0 := fun v M' => v = b2i (sp_ix (G.L 4 0) x).isSome ∧ M' = pg_si M 207 0 0) (Q1 := fun v M' => v = b2i (decide (¬ y < 1 ∧ ¬ (8 : Int32) < y)) ∧ M' = pg_si M 207 0 0) (Q2 := fun v M' => (∀ c, c < G.L 4 0 → x = nI c → v = b2i (decide (¬ G.s 2 c = 0))) ∧ M' = pg_si M 207 0 0) hR (pg_Ev.mono (by omega) (rm_isCloth (d := 0) hR hg0.l hk.l)) ?_ ?_ ?_ ?_ ?_ ?_)
  · rintro v M1 ⟨rfl, rfl⟩ q
    refine ⟨_, rfl, (no ?_).symm, hg0, rm_X.th⟩
    cases hi : sp_ix (G.L 4 0) x with
    | none => rfl
    | some c => rw [hi] at q; exact absurd q (show ¬ (1 : Int32) = 0 by decide)
  · rintro v M1 ⟨rfl, rfl⟩ _; exact rm_within
  · rintro v M1 ⟨rfl, rfl⟩ _ v2 M2 ⟨rfl, rfl⟩ q
    rw [b2i_0, decide_eq_false_iff_not, wy] at q
    exact ⟨_, rfl, (no2 q).symm, hg0, rm_X.th⟩
  · rintro v M1 ⟨rfl, rfl⟩ q v2 M2 ⟨rfl, rfl⟩ _
    cases hi : sp_ix (G.L 4 0) x with
    | none => rw [hi] at q; exact absurd rfl q
    | some c =>
      obtain ⟨hc, rfl⟩ := (sp_ix_some (by omega)).mp hi
      refine pg_Ev.imp ?_ (rm_isHung (d := d + 19) (b := 0) (c := c) (by omega) (by omega) hR hg0.s hk.s.1)
      rintro r M3 ⟨v, e1, e2, e3⟩
      exact ⟨v, e1, fun c' hc' e => by rw [← (nI_eq (by omega) (by omega)).mp e]; exact e2, e3⟩
  · rintro v M1 ⟨rfl, rfl⟩ q v2 M2 ⟨rfl, rfl⟩ q2 v3 M3 ⟨e3, rfl⟩ q3
    cases hi : sp_ix (G.L 4 0) x with
    | none => rw [hi] at q; exact absurd rfl q
    | some c =>
      obtain ⟨hc, rfl⟩ := (sp_ix_some (by omega)).mp hi
      rw [e3 c hc rfl, b2i_0, decide_eq_false_iff_not, Classical.not_not] at q3
      have q2' := ts_nf (fun z => q2 (b2i_0.mpr z))
      rw [decide_eq_true_eq, wy] at q2'
      obtain ⟨n, n9, n0, rfl⟩ := q2'
      have hq : sp_qodds G (nI c) (nI n) = nI (sp_ch G.L G.E G.s c n 0 (G.s 0 c) 0 * 1000000 / 10 ^ n) := by
        unfold sp_qodds; rw [hi, sp_ix_nI (by decide) n9]; simp only; rw [if_neg (fun z => z.elim (fun e => q3 e) (fun e => Nat.ne_of_gt n0 e))]
      rw [hq]
      refine pg_loop (fun p (m : pg_M) => pg_At S Λ YX11_odds (d + 20) 36 [(0, .ref 207), (1, .int (nI c)), (2, .int (nI n)), (3, .int (nI p))] [] m _) (fun p m => pg_fr [226] (pg_si M 207 0 0) m ∧ ∀ j, j < p → m.1 226 j = nI (G.s 3 j)) 8 ?_ ?_ 0 _ (Nat.zero_le _) ⟨pg_fr.rfl', fun j hj => by omega⟩
      · rintro m ⟨m1, m2⟩
        have hs9 : rm_S m 0 G.s := hg0.s.keep m1 (by simp)
        have hl9 : rm_L m G.L G.E := hg0.l.keep m1 (by simp) (by simp) (by simp)
        refine sX11_odds_36 hR (fun _ => ?_) (fun c => absurd (show (8 : Int32) ≤ nI 8 by decide) c) (fun c => absurd (show (8 : Int32) ≤ nI 8 by decide) c) (fun c => absurd (show (8 : Int32) ≤ nI 8 by decide) c)
        refine pg_loop (fun i (v : Int64) => pg_At S Λ YX11_odds (d + 20) 68 [(0, .ref 207), (1, .int (nI c)), (2, .int (nI n)), (3, .long v), (5, .int (nI i))] [] m _) (fun i v => v = lN (10 ^ i)) n ?_ ?_ 0 1 (Nat.zero_le _) rfl
        · rintro v rfl
          have c9 : nI n ≤ nI n := nI_le (Nat.le_refl _) (by omega)
          have a1 : (14 : Int32) + nI c = nI (14 + c) := by rw [show (14 : Int32) = nI 14 from rfl, nI_add]
          have a2 : (2 : Int32) + nI c = nI (2 + c) := by rw [show (2 : Int32) = nI 2 from rfl, nI_add]
          have b1 : m.1 221 ((14 : Int32) + nI c).toNatClampNeg = nI (sp_live G.s c 0) := by
            rw [a1, nI_clamp (by omega), sp_live_0 hk.s]
            have := (hs9.2.2.1 c (by omega)).2.2
            rw [show 0 + 14 + c = 14 + c by omega] at this
            exact this
          have b2 : m.1 221 ((2 : Int32) + nI c).toNatClampNeg = nI (G.s 0 c) := by
            rw [a2, nI_clamp (by omega)]
            have := (hs9.2.2.1 c (by omega)).1
            rw [show 0 + 2 + c = 2 + c by omega] at this
            exact this
          have p0 : 0 < 10 ^ n := Nat.pow_pos (by decide)
          have p8 : 10 ^ n ≤ 10 ^ 8 := Nat.pow_le_pow_right (by decide) (by omega)
          refine sX11_odds_68 (Q0 := fun v M' => v = lN (sp_ch G.L G.E G.s c n 0 (G.s 0 c) 0) ∧ rm_cg 0 m M') hR ?_ ?_ ?_ ?_ ?_ (fun c => absurd c9 c)
          · intro _; rw [a1]; exact vp_in_nI (by omega) (by decide)
          · intro _; rw [a2]; exact vp_in_nI (by omega) (by decide)
          · intro _
            rw [b1, b2]
            refine pg_Ev.mono (by omega) (rm_hanging (d := 0) (hrs := n) hc (by omega) hh hR hk.l hk.s.1 n 0 (G.s 0 c) 0 m (by omega) (hk.s.1.2.2.1 c).1 (by rw [sp_live_0 hk.s]; exact q3) hs9 hl9 (fun p hp => ?_))
            have : p < 8 := by rw [sp_live_bit] at hp; simp only [Bool.and_eq_true, decide_eq_true_eq] at hp; exact hp.1
            rw [show 8 * 0 + p = p by omega, m2 p this]; rfl
          · intro _ _ _ _; exact lo_ne p0 (by omega)
          · rintro _ v M4 ⟨rfl, f4⟩
            have f4' : pg_fr [219, 220, 226] (pg_si M 207 0 0) M4 := (m1.mono (fun b hb => by simp at hb ⊢; omega)).trans f4.1
            exact ⟨_, rfl, sp_div_T (by omega) (sp_ch_le hk.l.2.2.2.1 _ _ _ _), hg0.same (rm_same.fr f4' (fun b hb => by simp at hb ⊢; omega)), rm_X.th.trans (rm_X.of f4' (fun x hx => by simp at hx; omega))⟩
        · rintro i v hi9 rfl ih
          have c9 : ¬ nI n ≤ nI i := nI_ge hi9 (by omega)
          refine sX11_odds_68 (Q0 := fun _ _ => True) hR (fun c => absurd c c9) (fun c => absurd c c9) (fun c => absurd c c9) (fun c => absurd c c9) (fun c => absurd c c9) (fun _ => ?_)
          rw [nI_1, show (10 : Int64) = lN 10 from rfl, lo_mul]
          exact ih _ (by rw [Nat.pow_succ])
      · rintro p m hp ⟨m1, m2⟩ ih
        have cp : ¬ (8 : Int32) ≤ nI p := nI_ge (b := 8) hp (by decide)
        have a1 : (20 : Int32) + nI p = nI (20 + p) := by rw [show (20 : Int32) = nI 20 from rfl, nI_add]
        have hs9 : rm_S m 0 G.s := hg0.s.keep m1 (by simp)
        have b1 : m.1 221 ((20 : Int32) + nI p).toNatClampNeg = nI (G.s 3 p) := by
          rw [a1, nI_clamp (by omega)]
          have := hs9.2.2.2 p hp
          rw [show 0 + 20 + p = 20 + p by omega] at this
          exact this
        refine sX11_odds_36 hR (fun c => absurd c cp) ?_ ?_ ?_
        · intro _; rw [a1]; exact vp_in_nI (by omega) (by decide)
        · intro _; exact vp_in_nI (by omega) (by decide)
        · intro _
          rw [b1, nI_1, nI_clamp (by omega)]
          refine ih _ ⟨m1.trans (pg_fr.si (by simp)), fun j hj => ?_⟩
          rw [pg_si_at]
          by_cases e : j = p
          · subst e; rw [pk_us]
          · rw [pk_un e]; exact m2 j (by omega)
  · rintro v M1 ⟨rfl, rfl⟩ q v2 M2 ⟨rfl, rfl⟩ q2 v3 M3 ⟨e3, rfl⟩ q3
    cases hi : sp_ix (G.L 4 0) x with
    | none => rw [hi] at q; exact absurd rfl q
    | some c =>
      obtain ⟨hc, rfl⟩ := (sp_ix_some (by omega)).mp hi
      rw [e3 c hc rfl, b2i_0, decide_eq_false_iff_not, Classical.not_not] at q3
      have hq : sp_qodds G (nI c) y = -1 := by
        unfold sp_qodds; rw [hi]
        cases sp_ix 9 y with
        | none => rfl
        | some n => simp [q3]
      exact ⟨_, rfl, hq.symm, hg0, rm_X.th⟩
/-! the class -/
theorem rc_goOn {c x o wi : Nat} {r n : Nat → Nat} (hc : c < L 4 0) (hx : x < 100) (ho10 : o ≤ 10) (hl9 : 164 ≤ l) (hF : pg_full Λ) (hL : pg_isX5 Λ l) (hs : rc_S M 3 s) (hl : rc_L M l L E) (hk : sp_okL L E) (ho : sp_okS L s h) (hr : M.2.1 162 x = lN (r x)) (hn : ∀ j, j < 100 → M.2.1 163 j = lN (n j)) : pg_Ev S Λ YX0_goOn (d + 3) [.ref 161, .ref l, .ref 3, .int (nI c), .int (nI x), .int (nI wi), .int (nI o)] M (fun q M' => q = none ∧ ((∃ n' : Nat → Nat, (∀ j, j < 100 → M'.2.1 163 j = lN (n' j)) ∧ ∀ f : Nat → Nat → Nat, fb_sm (fun j => n' j * f (j / 10) (j % 10)) 100 = fb_sm (fun j => n j * f (j / 10) (j % 10)) 100 + r x * (o * sp_chs L E s c (x / 10) (x % 10) wi f)) ∧ pg_fr [l + 11, l + 14, 163] M M')) := by
  have h6 := hk.1
  have hcl : (nI c).toNatClampNeg = c := nI_clamp (by omega)
  have hdiv : nI x / 10 = nI (x / 10) := pk_div (d := 10) (by omega) (by omega) (by omega)
  have hrem : nI x - nI (x / 10) * 10 = nI (x % 10) := by rw [← hdiv]; exact pk_rem (d := 10) (by omega) (by omega) (by omega)
  have gle := sp_grips_le (bits := s 2 c) (less := x % 10) ho
  have gle1 := sp_grips_le (bits := s 2 c) (less := x % 10 + 1) ho
  have ple := sp_pull_le (L := L) (E := E) (c := c) (wet := x / 10) (wind := wi)
  have dle := sp_dry_le (L := L) (E := E) (c := c) (wet := x / 10) (wind := wi)
  have h28 := sp_lt8 (c := c) ho
  have t10 : x % 10 < 10 := Nat.mod_lt _ (by decide)
  have h2p : (2 : Int32) * nI (sp_pull L E c (x / 10) wi) = nI (2 * sp_pull L E c (x / 10) wi) := by rw [show (2 : Int32) = nI 2 from rfl, pk_mul]
  have keep : ∀ {m : pg_M}, pg_fr [l + 11] M m → rc_S m 3 s ∧ rc_L m l L E ∧ m.1 (3 + 3) (nI c).toNatClampNeg = nI (s 2 c) ∧ m.2.1 162 = M.2.1 162 ∧ m.2.1 163 = M.2.1 163 := fun {m} hm => by
    have s1 := hs.keep hm (fun i hi => by simp; omega)
    exact ⟨s1, hl.keep hm (fun j a b c => by simp; omega), by rw [hcl]; exact (s1.2.2.1 c (by omega)).2.2, hm.2.1 _ (by simp; omega), hm.2.1 _ (by simp; omega)⟩
  have zero : ∀ {m : pg_M}, pg_fr [l + 11, l + 14] M m → (∀ f, sp_chs L E s c (x / 10) (x % 10) wi f = 0) → True ∧ ((∃ n' : Nat → Nat, (∀ j, j < 100 → m.2.1 163 j = lN (n' j)) ∧ ∀ f : Nat → Nat → Nat, fb_sm (fun j => n' j * f (j / 10) (j % 10)) 100 = fb_sm (fun j => n j * f (j / 10) (j % 10)) 100 + r x * (o * sp_chs L E s c (x / 10) (x % 10) wi f)) ∧ pg_fr [l + 11, l + 14, 163] M m) := fun {m} hm hz =>
    ⟨trivial, ⟨n, fun j hj => by rw [hm.2.1 163 (by simp; omega)]; exact hn j hj, fun f => by rw [hz f]; simp⟩, hm.mono (fun b hb => by simp at hb ⊢; omega)⟩
  have add : ∀ {m N : pg_M} (w' : Nat), w' < 10 → w' = sp_worn L E s c (x / 10) (x % 10) wi → sp_pull L E c (x / 10) wi ≤ sp_grips s (s 2 c) (x % 10) → ¬ sp_grips s (s 2 c) w' = 0 → pg_fr [l + 11, l + 14] M m → N = pg_sj m 163 (sp_dry L E c (x / 10) wi * 10 + w') (m.2.1 163 (sp_dry L E c (x / 10) wi * 10 + w') + m.2.1 162 x * (nI o).toInt64) → True ∧ ((∃ n' : Nat → Nat, (∀ j, j < 100 → N.2.1 163 j = lN (n' j)) ∧ ∀ f : Nat → Nat → Nat, fb_sm (fun j => n' j * f (j / 10) (j % 10)) 100 = fb_sm (fun j => n j * f (j / 10) (j % 10)) 100 + r x * (o * sp_chs L E s c (x / 10) (x % 10) wi f)) ∧ pg_fr [l + 11, l + 14, 163] M N) := fun {m N} w' hw1 hw2 hp hz hm hN => by
    have e3 : m.2.1 163 = M.2.1 163 := hm.2.1 _ (by simp; omega)
    have e2 : m.2.1 162 = M.2.1 162 := hm.2.1 _ (by simp; omega)
    have ey : sp_dry L E c (x / 10) wi * 10 + w' < 100 := by omega
    rw [e3, e2, hr, hn _ ey, lo_of (by omega), lo_mul, lo_add] at hN
    refine ⟨trivial, ⟨fun j => if j = sp_dry L E c (x / 10) wi * 10 + w' then n (sp_dry L E c (x / 10) wi * 10 + w') + r x * o else n j, fun j hj => ?_, fun f => ?_⟩, ?_⟩
    · rw [hN, pg_sj_at]
      by_cases e : j = sp_dry L E c (x / 10) wi * 10 + w'
      · subst e; rw [pg_uL]; simp
      · rw [pg_uLn e, e3, hn j hj]; simp [e]
    · have hch : sp_chs L E s c (x / 10) (x % 10) wi f = f (sp_dry L E c (x / 10) wi) w' := by unfold sp_chs; rw [← hw2, if_pos ⟨hp, hz⟩]
      have hu := fb_sm_upd (fun j => n j * f (j / 10) (j % 10)) ((n (sp_dry L E c (x / 10) wi * 10 + w') + r x * o) * f ((sp_dry L E c (x / 10) wi * 10 + w') / 10) ((sp_dry L E c (x / 10) wi * 10 + w') % 10)) ey
      have hc2 : fb_sm (fun j => (if j = sp_dry L E c (x / 10) wi * 10 + w' then n (sp_dry L E c (x / 10) wi * 10 + w') + r x * o else n j) * f (j / 10) (j % 10)) 100 = fb_sm (fun k => if k = sp_dry L E c (x / 10) wi * 10 + w' then (n (sp_dry L E c (x / 10) wi * 10 + w') + r x * o) * f ((sp_dry L E c (x / 10) wi * 10 + w') / 10) ((sp_dry L E c (x / 10) wi * 10 + w') % 10) else n k * f (k / 10) (k % 10)) 100 := by
        refine fb_sm_cong (fun j hj => ?_)
        by_cases e : j = sp_dry L E c (x / 10) wi * 10 + w'
        · subst e; simp
        · simp [e]
      rw [hc2]
      rw [show (sp_dry L E c (x / 10) wi * 10 + w') / 10 = sp_dry L E c (x / 10) wi by omega, show (sp_dry L E c (x / 10) wi * 10 + w') % 10 = w' by omega, Nat.add_mul] at hu ⊢
      rw [hch, ← Nat.mul_assoc]
      omega
    · rw [hN]; exact (hm.mono (fun b hb => by simp at hb ⊢; omega)).trans (pg_fr.sj (by simp))
  refine oX0_goOn (sX0_goOn_0 (Q0 := fun v M' => v = nI (sp_pull L E c (x / 10) wi) ∧ pg_fr [l + 11] M M') (Q1 := fun v M' => v = nI (sp_grips s (s 2 c) (x % 10)) ∧ pg_fr [l + 11] M M') (Q2 := fun v M' => v = nI (sp_grips s (s 2 c) (x % 10)) ∧ pg_fr [l + 11] M M') (Q3 := fun v M' => v = nI (sp_dry L E c (x / 10) wi) ∧ pg_fr [l + 11, l + 14] M M') (Q4 := fun v M' => v = nI (sp_grips s (s 2 c) (x % 10 + 1)) ∧ pg_fr [l + 11] M M') (Q5 := fun v M' => v = nI (sp_dry L E c (x / 10) wi) ∧ pg_fr [l + 11, l + 14] M M') hL hF.now hF.x0 ?_ ?_ ?_ ?_ ?_ ?_ ?_ ?_ ?_ ?_ ?_ ?_ ?_ ?_ ?_ ?_ ?_ ?_) <;> (try simp only [hdiv, hrem])
  · exact rc_pullOn hc hL hl hk
  · rintro v M1 ⟨rfl, f1⟩; exact vp_in_nI (by omega) (by decide)
  · rintro v M1 ⟨rfl, f1⟩
    obtain ⟨k1, k2, k3, k4, k5⟩ := keep f1
    rw [k3]
    refine pg_Ev.imp ?_ (pg_Ev.mono (by omega) (rc_gripsLess (d := 0) (by omega) (by omega) hF.now k1 ho))
    rintro q M2 ⟨v, e1, e2, rfl⟩
    exact ⟨v, e1, e2, f1⟩
  · rintro v M1 _ v2 M2 _ _ _ q; rw [show (10 : Int32) = nI 10 from rfl, nI_leI (by omega) (by omega)] at q; omega
  · rintro v M1 _ v2 M2 ⟨rfl, f2⟩ _ _ _
    obtain ⟨k1, k2, k3, k4, k5⟩ := keep f2
    rw [k3]
    refine pg_Ev.imp ?_ (pg_Ev.mono (by omega) (rc_gripsLess (d := 0) (by omega) (by omega) hF.now k1 ho))
    rintro q M3 ⟨v, e1, e2, rfl⟩
    exact ⟨v, e1, e2, f2⟩
  · rintro v M1 _ v2 M2 _ _ _ _ v3 M3 ⟨rfl, f3⟩ _
    obtain ⟨k1, k2, k3, k4, k5⟩ := keep f3
    refine pg_Ev.imp ?_ (rc_wetAfter hc (by omega) hL k2 hk)
    rintro q M4 ⟨v, e1, e2, e3⟩
    exact ⟨v, e1, e2, (f3.mono (fun b hb => by simp at hb ⊢; omega)).trans (e3.mono (fun b hb => by simp at hb ⊢; omega))⟩
  · rintro v M1 _ v2 M2 _ _ _ _ v3 M3 _ _ v4 M4 ⟨rfl, f4⟩
    rw [show (10 : Int32) = nI 10 from rfl, pk_mul, nI_add]; exact vp_in_nI (by omega) (by decide)
  · rintro v M1 _ v2 M2 _ _ _ _ v3 M3 _ _ v4 M4 _; exact vp_in_nI (by omega) (by decide)
  · rintro v M1 ⟨rfl, _⟩ v2 M2 ⟨rfl, _⟩ q1 q2 q3 v3 M3 ⟨rfl, _⟩ q4 v4 M4 ⟨rfl, f4⟩ N1 hN
    rw [nI_leI (by omega) (by omega)] at q1
    rw [h2p, nI_leI (by omega) (by omega)] at q2
    rw [← nI_0, nI_eq (by omega) (by omega)] at q4
    rw [show (10 : Int32) = nI 10 from rfl, pk_mul, nI_add, nI_clamp (by omega), nI_clamp (by omega)] at hN
    exact add (x % 10) t10 (by unfold sp_worn; rw [if_pos q2]) q1 q4 f4 hN
  · rintro v M1 _ v2 M2 ⟨rfl, _⟩ q1 q2 q3 v3 M3 ⟨rfl, f3⟩ q4
    rw [← nI_0, nI_eq (by omega) (by omega)] at q4
    refine zero (f3.mono (fun b hb => by simp at hb ⊢; omega)) (fun f => ?_)
    suffices hz : sp_grips s (s 2 c) (sp_worn L E s c (x / 10) (x % 10) wi) = 0 by unfold sp_chs; rw [if_neg (fun z => z.2 hz)]
    unfold sp_worn
    split
    · exact q4
    · have h1 : sp_live s c (x % 10 + 1) = 0 := by
        have h0 : sp_live s c (x % 10) = 0 := (sp_live_zero ho).mpr q4
        apply Nat.eq_of_testBit_eq
        intro p
        have := congrArg (fun z => Nat.testBit z p) h0
        simp only [sp_live_bit, Nat.zero_testBit] at this
        rw [sp_live_bit, Nat.zero_testBit]
        by_cases e : x % 10 + 1 < s 3 p
        · simp only [show x % 10 < s 3 p by omega, decide_true, Bool.and_true] at this
          simp only [e, decide_true, Bool.and_true]; exact this
        · simp [e]
      exact (sp_live_zero ho).mp h1
  · rintro v M1 ⟨rfl, _⟩ v2 M2 ⟨rfl, f2⟩ q1 q2 q3
    rw [nI_1, show (10 : Int32) = nI 10 from rfl, nI_leI (by omega) (by omega)] at q3
    rw [h2p, nI_leI (by omega) (by omega)] at q2
    refine zero (f2.mono (fun b hb => by simp at hb ⊢; omega)) (fun f => ?_)
    suffices hz : sp_grips s (s 2 c) (sp_worn L E s c (x / 10) (x % 10) wi) = 0 by unfold sp_chs; rw [if_neg (fun z => z.2 hz)]
    unfold sp_worn
    rw [if_neg q2]
    exact sp_grips_10 ho q3
  · rintro v M1 _ v2 M2 ⟨rfl, f2⟩ _ _ _
    obtain ⟨k1, k2, k3, k4, k5⟩ := keep f2
    rw [k3, nI_1]
    refine pg_Ev.imp ?_ (pg_Ev.mono (by omega) (rc_gripsLess (d := 0) (by omega) (by omega) hF.now k1 ho))
    rintro q M3 ⟨v, e1, e2, rfl⟩
    exact ⟨v, e1, e2, f2⟩
  · rintro v M1 _ v2 M2 _ _ _ _ v3 M3 ⟨rfl, f3⟩ _
    obtain ⟨k1, k2, k3, k4, k5⟩ := keep f3
    refine pg_Ev.imp ?_ (rc_wetAfter hc (by omega) hL k2 hk)
    rintro q M4 ⟨v, e1, e2, e3⟩
    exact ⟨v, e1, e2, (f3.mono (fun b hb => by simp at hb ⊢; omega)).trans (e3.mono (fun b hb => by simp at hb ⊢; omega))⟩
  · rintro v M1 _ v2 M2 _ _ _ q3 v3 M3 _ _ v4 M4 ⟨rfl, f4⟩
    rw [nI_1, show (10 : Int32) = nI 10 from rfl, nI_leI (by omega) (by omega)] at q3
    rw [nI_1, show (10 : Int32) = nI 10 from rfl, pk_mul, nI_add]; exact vp_in_nI (by omega) (by decide)
  · rintro v M1 _ v2 M2 _ _ _ _ v3 M3 _ _ v4 M4 _; exact vp_in_nI (by omega) (by decide)
  · rintro v M1 ⟨rfl, _⟩ v2 M2 ⟨rfl, _⟩ q1 q2 q3 v3 M3 ⟨rfl, _⟩ q4 v4 M4 ⟨rfl, f4⟩ N1 hN
    rw [nI_1, show (10 : Int32) = nI 10 from rfl, nI_leI (by omega) (by omega)] at q3
    rw [nI_leI (by omega) (by omega)] at q1
    rw [h2p, nI_leI (by omega) (by omega)] at q2
    rw [← nI_0, nI_eq (by omega) (by omega)] at q4
    rw [nI_1, show (10 : Int32) = nI 10 from rfl, pk_mul, nI_add, nI_clamp (by omega), nI_clamp (by omega)] at hN
    exact add (x % 10 + 1) (by omega) (by unfold sp_worn; rw [if_neg q2]) q1 q4 f4 hN
  · rintro v M1 ⟨rfl, _⟩ v2 M2 ⟨rfl, _⟩ q1 q2 q3 v3 M3 ⟨rfl, f3⟩ q4
    rw [h2p, nI_leI (by omega) (by omega)] at q2
    rw [← nI_0, nI_eq (by omega) (by omega)] at q4
    refine zero (f3.mono (fun b hb => by simp at hb ⊢; omega)) (fun f => ?_)
    suffices hz : sp_grips s (s 2 c) (sp_worn L E s c (x / 10) (x % 10) wi) = 0 by unfold sp_chs; rw [if_neg (fun z => z.2 hz)]
    unfold sp_worn
    rw [if_neg q2]
    exact q4
  · rintro v M1 ⟨rfl, _⟩ v2 M2 ⟨rfl, f2⟩ q1
    rw [nI_leI (by omega) (by omega)] at q1
    refine zero (f2.mono (fun b hb => by simp at hb ⊢; omega)) (fun f => ?_)
    unfold sp_chs
    rw [if_neg (fun z => q1 z.1)]
end PGR
