/-! the reference: what is asked -/
def sp_oI (o : Option Nat) : Int32 := match o with
  | none => -1
  | some k => nI k
theorem sp_by_of {L s : sp_N} {h p : Nat} {v : Int32} (ho : sp_okS L s h) (hv : (∃ c, c < 6 ∧ (s 2 c).testBit p = true ∧ v = nI c) ∨ ((∀ c, c < 6 → (s 2 c).testBit p = false) ∧ v = -1)) : v = sp_oI (sp_by s p) := by
  rcases hv with ⟨c, hc, hb, rfl⟩ | ⟨hn, rfl⟩
  · have : sp_by s p = some c := by
      unfold sp_by
      rw [List.find?_range_eq_some]
      refine ⟨hb, by simpa using hc, fun j hj => ?_⟩
      have := ho.2.2.2.2.2.2 c j p (by omega) hb
      simp [this]
    rw [this]; rfl
  · have : sp_by s p = none := by
      rw [← Option.isNone_iff_eq_none]
      exact sp_by_none.mpr hn
    rw [this]; rfl
def sp_qcloth (G : sp_G) (x w : Int32) : Int32 := match sp_ix (G.L 4 0) x with
  | none => -1
  | some c => if w = 0 then nI (G.L 0 c) else if w = 1 then nI (G.s 0 c) else if w = 2 then nI (G.s 1 c) else if w = 3 then nI (G.s 2 c) else if w = 4 then b2i (sp_law G.L G.s c) else if w = 5 then b2i (sp_turn G.s c) else if w = 6 then nI (sp_roomBy G.L c (sp_pc (G.s 2 c))) else if w = 7 then nI (sp_pull G.L G.E c (G.s 0 c) (sp_wind G.L (G.s 4 1))) else -1
def sp_qpeg (G : sp_G) (x w : Int32) : Int32 := match sp_ix (G.s 4 0) x with
  | none => -2
  | some p => if w = 0 then nI (G.s 3 p) else if w = 1 then sp_oI (sp_by G.s p) else -2
def sp_qfeel (G : sp_G) (x y z : Int32) : Int32 × sp_G := match sp_ix (G.L 4 0) x, sp_ix 13 y, sp_ix 10 z with
  | some c, some k, some w => if G.fl.length = 8 then (0, G) else (1, G.felt (G.fl ++ [(c, k, w)]))
  | _, _, _ => (0, G)
def sp_cl (L : sp_N) (set : Nat) : Nat := fb_sm (fun a => fb_ct (fun e => decide (L 6 (6 * a + e) = 1) && (set.testBit a && set.testBit e)) a) (L 4 0)
def sp_qcount (G : sp_G) (w : Int32) : Int32 := if w = 0 then nI (G.L 4 0) else if w = 1 then nI (G.s 4 0) else if w = 2 then nI (G.L 4 1) else if w = 3 then sp_left G.L G.s else if w = 4 then nI (G.s 4 1) else if w = 5 then nI (sp_wind G.L (G.s 4 1)) else if w = 6 then nI (sp_worth G.L (sp_laws G.L G.s)) else if w = 7 then nI (sp_turns G.L G.s) else if w = 8 then nI (G.L 4 5) else if w = 9 then nI G.pl.length else if w = 10 then nI G.fl.length else if w = 11 then nI G.us.length else if w = 12 then nI G.tp.length else -1
theorem sp_ix_iff {n : Nat} {x : Int32} (hn : n < 2 ^ 31) : (¬ x < 0 ∧ ¬ nI n ≤ x) ↔ ∃ c, sp_ix n x = some c := by
  constructor
  · rintro ⟨a, b⟩
    obtain ⟨j, hj, rfl⟩ := nI_of a
    rw [nI_leI hn hj] at b
    exact ⟨j, sp_ix_nI hn (by omega)⟩
  · rintro ⟨c, hc⟩
    obtain ⟨a, rfl⟩ := (sp_ix_some hn).mp hc
    exact ⟨nI_pos (by omega), nI_ge a hn⟩
theorem sp_ix_win {n : Nat} {x m : Int32} (hn : n < 2 ^ 30) (hm : m = nI n) : decide (¬ x < 0 ∧ ¬ m < x) = (sp_ix (n + 1) x).isSome := by
  subst hm
  cases hi : sp_ix (n + 1) x with
  | none =>
    rw [decide_eq_false]; · rfl
    rintro ⟨a, b⟩
    obtain ⟨j, hj, rfl⟩ := nI_of a
    rw [nI_ltI (by omega) hj] at b
    rw [sp_ix_nI (by omega) (by omega)] at hi; cases hi
  | some c =>
    obtain ⟨a, rfl⟩ := (sp_ix_some (by omega)).mp hi
    rw [decide_eq_true]; · rfl
    exact ⟨nI_pos (by omega), by rw [nI_ltI (by omega) (by omega)]; omega⟩
section PGR
variable {S : pg_S} {Λ : pg_L} {d h : Nat} {M : pg_M} {G : sp_G}
theorem rm_laws (hR : pg_isX11 Λ) (hg : rm_G M G) (hk : sp_okG G h) : pg_Ev S Λ YX11_laws (d + 4) [.ref 207] M (fun r M' => ∃ v, r = some (.int v) ∧ (v = nI (sp_laws G.L G.s) ∧ rm_G M' G ∧ pg_fr rm_X M M')) := by
  have hg0 := hg.th
  refine oX11_laws (sX11_laws_0 (Q0 := fun v M' => v = nI (sp_laws G.L G.s) ∧ M' = pg_si M 207 0 0) hR (rm_lawsOf (b := 0) (by omega) hR hg0.s hg0.l hk.l hk.s.1) ?_)
  rintro x1 M1 ⟨rfl, rfl⟩; exact ⟨_, rfl, rfl, hg0, rm_X.th⟩
theorem rm_free (hR : pg_isX11 Λ) (hg : rm_G M G) (hk : sp_okG G h) : pg_Ev S Λ YX11_free (d + 3) [.ref 207] M (fun r M' => ∃ v, r = some (.int v) ∧ (v = nI (sp_free G.s) ∧ rm_G M' G ∧ pg_fr rm_X M M')) := by
  have hg0 := hg.th
  refine oX11_free (sX11_free_0 (Q0 := fun v M' => v = nI (sp_free G.s) ∧ M' = pg_si M 207 0 0) hR (rm_freePegs (b := 0) (by omega) hR hg0.s hg0.l hk.l hk.s.1) ?_)
  rintro x1 M1 ⟨rfl, rfl⟩; exact ⟨_, rfl, rfl, hg0, rm_X.th⟩
theorem rm_peg {x w : Int32} (hR : pg_isX11 Λ) (hg : rm_G M G) (hk : sp_okG G h) : pg_Ev S Λ YX11_peg (d + 2) [.ref 207, .int x, .int w] M (fun r M' => ∃ v, r = some (.int v) ∧ (v = sp_qpeg G x w ∧ rm_G M' G ∧ pg_fr rm_X M M')) := by
  have h8 := hk.s.1.1
  have hg0 := hg.th
  have hm : (pg_si M 207 0 0).1 221 1 = nI (G.s 4 0) := hg0.s.2.1
  have w1 : decide (¬ w < 0 ∧ ¬ (1 : Int32) < w) = (sp_ix 2 w).isSome := sp_ix_win (n := 1) (by decide) rfl
  refine oX11_peg (sX11_peg_0 (Q0 := fun v M' => v = b2i (decide (¬ w < 0 ∧ ¬ (1 : Int32) < w)) ∧ M' = pg_si M 207 0 0) (Q1 := fun v M' => v = sp_oI (sp_by G.s x.toNatClampNeg) ∧ M' = pg_si M 207 0 0) hR (fun c => ?_) (fun c c2 => ?_) (fun c c2 => rm_within) ?_ ?_ ?_ ?_ ?_)
  · have e : sp_ix (G.s 4 0) x = none := by
      rw [sp_ix_none (by omega)]; rintro i hi rfl; exact absurd c (nI_pos (by omega))
    exact ⟨_, rfl, by unfold sp_qpeg; rw [e], hg0, rm_X.th⟩
  · rw [tn_1, hm] at c2
    have e : sp_ix (G.s 4 0) x = none := by
      rw [sp_ix_none (by omega)]; rintro i hi rfl; exact absurd c2 (nI_ge hi (by omega))
    exact ⟨_, rfl, by unfold sp_qpeg; rw [e], hg0, rm_X.th⟩
  all_goals
    intro c c2
    rw [tn_1, hm] at c2
    obtain ⟨p, hp⟩ := (sp_ix_iff (by omega)).mp ⟨c, c2⟩
    obtain ⟨hp8, rfl⟩ := (sp_ix_some (by omega)).mp hp
    have hcl : (nI p).toNatClampNeg = p := nI_clamp (by omega)
    try rw [hcl]
  · rintro x1 M1 ⟨rfl, rfl⟩ c3 c4
    exact pg_Ev.imp (fun r M' q => by obtain ⟨v, e1, e2, e3⟩ := q; exact ⟨v, e1, sp_by_of hk.s.1 e2, e3⟩) (rm_heldBy (b := 0) (by omega) (by omega) hR hg0.s hg0.l hk.l hk.s.1)
  · rintro x1 M1 ⟨rfl, rfl⟩ c3 c4 x2 M2 ⟨rfl, rfl⟩
    have c3' : (sp_ix 2 w).isSome = true := by rw [← w1]; exact ts_nf (fun q => c3 (b2i_0.mpr q))
    obtain ⟨j, hj⟩ := Option.isSome_iff_exists.mp c3'
    obtain ⟨a, rfl⟩ := (sp_ix_some (by decide)).mp hj
    have hj1 : j = 1 := by
      rcases Nat.eq_zero_or_pos j with q | q
      · subst q; exact absurd rfl c4
      · omega
    subst hj1
    exact ⟨_, rfl, by unfold sp_qpeg; rw [hp]; simp [show nI 1 = (1 : Int32) from rfl], hg0, rm_X.th⟩
  · rintro x1 M1 ⟨rfl, rfl⟩ c3 c4
    rw [show (20 : Int32) = nI 20 from rfl, nI_add]; exact vp_in_nI (by omega) (by decide)
  · rintro x1 M1 ⟨rfl, rfl⟩ c3 c4
    rw [show (20 : Int32) = nI 20 from rfl, nI_add, nI_clamp (by omega)]
    have := hg0.s.2.2.2 p (by omega)
    rw [Nat.zero_add] at this
    exact ⟨_, rfl, by rw [this]; unfold sp_qpeg; rw [hp]; simp [c4], hg0, rm_X.th⟩
  · rintro x1 M1 ⟨rfl, rfl⟩ c3
    rw [w1, b2i_0] at c3
    have e : sp_ix 2 w = none := by simpa using c3
    rw [sp_ix_none (by decide)] at e
    refine ⟨_, rfl, ?_, hg0, rm_X.th⟩
    unfold sp_qpeg
    rw [hp]
    simp only
    rw [if_neg (show ¬ w = 0 from e 0 (by decide)), if_neg (show ¬ w = 1 from e 1 (by decide))]
theorem rm_cloth {x w : Int32} (hR : pg_isX11 Λ) (hh : h < 2 ^ 30) (hg : rm_G M G) (hk : sp_okG G h) : pg_Ev S Λ YX11_cloth (d + 4) [.ref 207, .int x, .int w] M (fun r M' => ∃ v, r = some (.int v) ∧ (v = sp_qcloth G x w ∧ rm_G M' G ∧ pg_fr rm_X M M')) := by
  have h6 := hk.l.1
  have hg0 := hg.th
  have w7 : decide (¬ w < 0 ∧ ¬ (7 : Int32) < w) = (sp_ix 8 w).isSome := sp_ix_win (n := 7) (by decide) rfl
  cases hi : sp_ix (G.L 4 0) x with
  | none =>
    have e2 : sp_qcloth G x w = -1 := by unfold sp_qcloth; rw [hi]
    rw [e2]
    refine oX11_cloth (sX11_cloth_0 (Q0 := fun v M' => v = b2i (sp_ix (G.L 4 0) x).isSome ∧ M' = pg_si M 207 0 0) (Q1 := fun _ _ => True) (Q2 := fun _ _ => True) (Q3 := fun _ _ => True) (Q4 := fun _ _ => True) (Q5 := fun _ _ => True) (Q6 := fun _ _ => True) (Q7 := fun _ _ => True) (Q8 := fun _ _ => True) (Q9 := fun _ _ => True) hR (rm_isCloth hR hg0.l hk.l) ?_ ?_ ?_ ?_ ?_ ?_ ?_ ?_ ?_ ?_ ?_ ?_ ?_ ?_ ?_ ?_ ?_ ?_ ?_ ?_ ?_ ?_ ?_ ?_ ?_ ?_ ?_)
    · rintro x1 M1 ⟨rfl, rfl⟩ c; exact ⟨_, rfl, rfl, hg0, rm_X.th⟩
    all_goals (rintro x1 M1 ⟨rfl, rfl⟩ c; rw [hi] at c; exact absurd rfl c)
  | some i =>
    obtain ⟨hc, rfl⟩ := (sp_ix_some (by omega)).mp hi
    have hn8 := sp_lt8 (c := i) hk.s.1
    have e2 : ∀ k, k < 1000 → nI k + nI i = nI (k + i) := fun k _ => nI_add _ _
    have sv : ∀ k, (0 + k + i) = k + i := fun k => by omega
    have hs := hg0.s.2.2.1 i (by omega)
    rw [sv, sv, sv] at hs
    have hnow : (pg_si M 207 0 0).1 221 0 = nI (G.s 4 1) := hg0.s.1
    have hw41 := hk.s.1.2.1
    refine oX11_cloth (sX11_cloth_0 (Q0 := fun v M' => v = b2i (sp_ix (G.L 4 0) (nI i)).isSome ∧ M' = pg_si M 207 0 0) (Q1 := fun v M' => v = b2i (decide (¬ w < 0 ∧ ¬ (7 : Int32) < w)) ∧ M' = pg_si M 207 0 0) (Q2 := fun v M' => v = nI (G.L 0 i) ∧ M' = pg_si M 207 0 0) (Q3 := fun v M' => v = b2i (sp_law G.L G.s i) ∧ M' = pg_si M 207 0 0) (Q4 := fun v M' => v = b2i (sp_turn G.s i) ∧ M' = pg_si M 207 0 0) (Q5 := fun v M' => v = b2i (decide (¬ G.s 2 i = 0)) ∧ M' = pg_si M 207 0 0) (Q6 := fun v M' => v = nI (sp_pc (G.s 2 i)) ∧ M' = pg_si M 207 0 0) (Q7 := fun v M' => v = nI (sp_roomBy G.L i (sp_pc (G.s 2 i))) ∧ M' = pg_si M 207 0 0) (Q8 := fun v M' => v = nI (sp_wind G.L (G.s 4 1)) ∧ M' = pg_si M 207 0 0) (Q9 := fun v M' => v = nI (sp_pull G.L G.E i (G.s 0 i) (sp_wind G.L (G.s 4 1))) ∧ pg_fr [219, 220] (pg_si M 207 0 0) M') hR (pg_Ev.mono (by omega) (rm_isCloth (d := 0) hR hg0.l hk.l)) ?_ ?_ ?_ ?_ ?_ ?_ ?_ ?_ ?_ ?_ ?_ ?_ ?_ ?_ ?_ ?_ ?_ ?_ ?_ ?_ ?_ ?_ ?_ ?_ ?_ ?_ ?_)
    all_goals rintro x1 M1 ⟨rfl, rfl⟩ c
    · rw [hi] at c; exact absurd c (show ¬ (1 : Int32) = 0 by decide)
    · exact rm_within
    all_goals rintro x2 M2 ⟨rfl, rfl⟩ c2
    · rintro rfl; exact pg_Ev.mono (by omega) (rm_clothOf (d := 0) (k := 0) hc (by decide) hR hg0.l hk.l)
    · rintro rfl x3 M3 ⟨rfl, rfl⟩; exact ⟨_, rfl, by unfold sp_qcloth; rw [hi]; rfl, hg0, rm_X.th⟩
    · rintro _ _; rw [show (2 : Int32) = nI 2 from rfl, nI_add]; exact vp_in_nI (by omega) (by decide)
    · rintro n0 rfl; rw [show (2 : Int32) = nI 2 from rfl, nI_add, nI_clamp (by omega), hs.1]; exact ⟨_, rfl, by unfold sp_qcloth; rw [hi]; rfl, hg0, rm_X.th⟩
    · rintro _ _ _; rw [show (8 : Int32) = nI 8 from rfl, nI_add]; exact vp_in_nI (by omega) (by decide)
    · rintro n0 n1 rfl; rw [show (8 : Int32) = nI 8 from rfl, nI_add, nI_clamp (by omega), hs.2.1]; exact ⟨_, rfl, by unfold sp_qcloth; rw [hi]; rfl, hg0, rm_X.th⟩
    · rintro _ _ _ _; rw [show (14 : Int32) = nI 14 from rfl, nI_add]; exact vp_in_nI (by omega) (by decide)
    · rintro n0 n1 n2 rfl; rw [show (14 : Int32) = nI 14 from rfl, nI_add, nI_clamp (by omega), hs.2.2]; exact ⟨_, rfl, by unfold sp_qcloth; rw [hi]; rfl, hg0, rm_X.th⟩
    · rintro n0 n1 n2 n3 rfl; exact pg_Ev.mono (by omega) (rm_isLaw (d := 0) (b := 0) hc (by omega) hR hg0.s hg0.l hk.l hk.s.1)
    · rintro n0 n1 n2 n3 rfl x4 M4 ⟨rfl, rfl⟩ c4; exact ⟨_, rfl, by rw [← c4]; unfold sp_qcloth; rw [hi]; rfl, hg0, rm_X.th⟩
    · rintro n0 n1 n2 n3 rfl x4 M4 ⟨rfl, rfl⟩ c4
      have c4' := ts_nf (fun q => c4 (b2i_0.mpr q))
      refine ⟨_, rfl, ?_, hg0, rm_X.th⟩
      have : sp_qcloth G (nI i) 4 = b2i (sp_law G.L G.s i) := by unfold sp_qcloth; rw [hi]; rfl
      rw [this, c4']; rfl
    · rintro n0 n1 n2 n3 n4 rfl; exact pg_Ev.mono (by omega) (rm_isTurned (d := 0) (b := 0) (by omega) (by omega) hR hg0.s hk.s.1)
    · rintro n0 n1 n2 n3 n4 rfl x4 M4 ⟨rfl, rfl⟩ c4; exact ⟨_, rfl, by rw [← c4]; unfold sp_qcloth; rw [hi]; rfl, hg0, rm_X.th⟩
    · rintro n0 n1 n2 n3 n4 rfl x4 M4 ⟨rfl, rfl⟩ c4
      have c4' := ts_nf (fun q => c4 (b2i_0.mpr q))
      refine ⟨_, rfl, ?_, hg0, rm_X.th⟩
      have : sp_qcloth G (nI i) 5 = b2i (sp_turn G.s i) := by unfold sp_qcloth; rw [hi]; rfl
      rw [this, c4']; rfl
    · rintro n0 n1 n2 n3 n4 n5 rfl; exact rm_isHung (b := 0) (by omega) (by omega) hR hg0.s hk.s.1
    · rintro n0 n1 n2 n3 n4 n5 rfl x4 M4 ⟨rfl, rfl⟩ c4
      rw [b2i_0, decide_eq_false_iff_not, Classical.not_not] at c4
      refine ⟨_, rfl, ?_, hg0, rm_X.th⟩
      have : sp_qcloth G (nI i) 6 = nI (sp_roomBy G.L i (sp_pc (G.s 2 i))) := by unfold sp_qcloth; rw [hi]; rfl
      rw [this, c4]; rfl
    · rintro n0 n1 n2 n3 n4 n5 rfl x4 M4 ⟨rfl, rfl⟩ c4; rw [show (14 : Int32) = nI 14 from rfl, nI_add]; exact vp_in_nI (by omega) (by decide)
    · rintro n0 n1 n2 n3 n4 n5 rfl x4 M4 ⟨rfl, rfl⟩ c4; rw [show (14 : Int32) = nI 14 from rfl, nI_add, nI_clamp (by omega), hs.2.2]; exact rm_bits (by omega)
    · rintro n0 n1 n2 n3 n4 n5 rfl x4 M4 ⟨rfl, rfl⟩ c4 x5 M5 ⟨rfl, rfl⟩
      rw [b2i_0, decide_eq_false_iff_not, Classical.not_not] at c4
      exact pg_Ev.mono (by omega) (rm_roomBy (d := 0) hc (sp_pc_pos (by omega) c4) (by have := sp_pc_le (G.s 2 i); omega) hR hg0.l hk.l)
    · rintro n0 n1 n2 n3 n4 n5 rfl x4 M4 ⟨rfl, rfl⟩ c4 x5 M5 ⟨rfl, rfl⟩ x6 M6 ⟨rfl, rfl⟩
      exact ⟨_, rfl, by unfold sp_qcloth; rw [hi]; rfl, hg0, rm_X.th⟩
    · rintro _ _ _ _ _ _ _; rw [show (2 : Int32) = nI 2 from rfl, nI_add]; exact vp_in_nI (by omega) (by decide)
    · rintro _ _ _ _ _ _ _; rw [tn_0, hnow]; exact rm_windOf false (by omega) hR hg0.l hk.l
    · rintro _ _ _ _ _ _ _ x9 M9 ⟨rfl, rfl⟩
      rw [show (2 : Int32) = nI 2 from rfl, nI_add, nI_clamp (by omega), hs.1]
      exact pg_Ev.mono (by omega) (rm_pullOf (d := 0) hc hR hg0.l hk.l)
    · rintro n0 n1 n2 n3 n4 n5 n6 x9 M9 ⟨rfl, rfl⟩ x10 M10 ⟨rfl, f10⟩
      have c2' : (sp_ix 8 w).isSome = true := by rw [← w7]; exact ts_nf (fun q => c2 (b2i_0.mpr q))
      obtain ⟨j, hj⟩ := Option.isSome_iff_exists.mp c2'
      obtain ⟨a, rfl⟩ := (sp_ix_some (by decide)).mp hj
      have hj7 : j = 7 := by
        have g : ∀ k, k < 7 → j ≠ k := fun k hk1 e => by
          subst e
          have : j = 0 ∨ j = 1 ∨ j = 2 ∨ j = 3 ∨ j = 4 ∨ j = 5 ∨ j = 6 := by omega
          rcases this with rfl | rfl | rfl | rfl | rfl | rfl | rfl
          · exact n0 rfl
          · exact n1 rfl
          · exact n2 rfl
          · exact n3 rfl
          · exact n4 rfl
          · exact n5 rfl
          · exact n6 rfl
        by_cases q : j < 7
        · exact absurd rfl (g j q)
        · omega
      subst hj7
      refine ⟨_, rfl, by unfold sp_qcloth; rw [hi]; rfl, hg0.same (rm_same.fr f10 (fun b q => by simp at q ⊢; omega)), rm_X.th.trans (rm_X.of f10 (fun x hx => by simp at hx; omega))⟩
    · rw [w7, b2i_0] at c2
      have e : sp_ix 8 w = none := by simpa using c2
      rw [sp_ix_none (by decide)] at e
      refine ⟨_, rfl, ?_, hg0, rm_X.th⟩
      unfold sp_qcloth
      rw [hi]
      simp only
      rw [if_neg (show ¬ w = 0 from e 0 (by decide)), if_neg (show ¬ w = 1 from e 1 (by decide)), if_neg (show ¬ w = 2 from e 2 (by decide)), if_neg (show ¬ w = 3 from e 3 (by decide)), if_neg (show ¬ w = 4 from e 4 (by decide)), if_neg (show ¬ w = 5 from e 5 (by decide)), if_neg (show ¬ w = 6 from e 6 (by decide)), if_neg (show ¬ w = 7 from e 7 (by decide))]
end PGR
