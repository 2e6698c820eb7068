/-! the class: what is asked of the state; marks; what is felt -/
theorem rc_G.marked {M M' : pg_M} {G : sp_G} {mk : Nat → Option (sp_N × List (Nat × Nat × Nat))} (hg : rc_G M G) (h1 : ∀ b, (b < 109 ∨ 153 ≤ b) → b ≠ 23 → M'.1 b = M.1 b) (h3 : ∀ b, 153 ≤ b → M'.2.1 b = M.2.1 b) (h4 : M'.2.2 = M.2.2) (hm : rc_ms M' mk) : rc_G M' (G.marked mk) := by
  obtain ⟨gd, gl, gn, gs, gf, gu, gm, gp, gt, gz⟩ := hg
  have gdl := gd.l
  have gdp := gd.p
  refine ⟨gd.mv h4, ?_, ?_, gs.fr (fun j hj => h1 _ (by omega) (by omega)), gf.fr (fun j hj => h1 _ (by omega) (by omega)), gu.fr (h1 _ (by omega) (by omega)) (fun b a c => h1 _ (by omega) (by omega)), hm, ?_, ?_, ?_⟩
  · show rc_L M' (M'.2.2 0 8) G.L G.E
    rw [h4]
    exact gl.fr (fun j a b c => h1 _ (by omega) (by omega))
  · show rc_N M' (M'.2.2 0 8) (G.L 4 0) G.nm
    intro c hc
    rw [h4, h3 _ (by omega)]
    exact gn c hc
  · show rc_P M' (M'.2.2 0 10) G.pl
    rw [h4]
    exact gp.fr (by rw [h1 _ (by omega) (by omega)]) (fun j a b => h1 _ (by omega) (by omega))
  · show rc_T M' G.tp
    unfold rc_T at gt ⊢
    rw [h1 1 (by omega) (by omega), h1 2 (by omega) (by omega)]
    exact gt
  · show rc_Z M'
    unfold rc_Z at gz ⊢
    rw [h1 156 (by omega) (by omega), h1 157 (by omega) (by omega)]
    exact gz
theorem rc_G.back {M M' : pg_M} {G : sp_G} {t : sp_N} {us : List sp_N} {f : List (Nat × Nat × Nat)} (hg : rc_G M G) (h1 : ∀ b, (b < 3 ∨ 20 ≤ b) → M'.1 b = M.1 b) (h3 : ∀ b, 20 ≤ b → M'.2.1 b = M.2.1 b) (h4 : M'.2.2 = M.2.2) (hs : rc_S M' 3 t) (hf : rc_F M' 13 f) (hu : rc_us M' us) : rc_G M' (G.back t us f) := by
  obtain ⟨gd, gl, gn, gs, gf, gu, gm, gp, gt, gz⟩ := hg
  have gdl := gd.l
  have gdp := gd.p
  refine ⟨gd.mv h4, ?_, ?_, hs, hf, hu, gm.fr (h1 _ (by omega)) (fun b a c => h1 _ (by omega)), ?_, ?_, ?_⟩
  · show rc_L M' (M'.2.2 0 8) G.L G.E
    rw [h4]
    exact gl.fr (fun j a b c => h1 _ (by omega))
  · show rc_N M' (M'.2.2 0 8) (G.L 4 0) G.nm
    intro c hc
    rw [h4, h3 _ (by omega)]
    exact gn c hc
  · show rc_P M' (M'.2.2 0 10) G.pl
    rw [h4]
    exact gp.fr (by rw [h1 _ (by omega)]) (fun j a b => h1 _ (by omega))
  · show rc_T M' G.tp
    unfold rc_T at gt ⊢
    rw [h1 1 (by omega), h1 2 (by omega)]
    exact gt
  · show rc_Z M'
    unfold rc_Z at gz ⊢
    rw [h1 156 (by omega), h1 157 (by omega)]
    exact gz
section PGP
variable {S : pg_S} {Λ : pg_L} {d h : Nat} {M : pg_M} {G : sp_G} {L s : sp_N} {E : sp_E}
theorem rc_lay {m : Nat} (hm : m < 4) (hF : pg_full Λ) (hg : rc_G M G) (hk : sp_okG G h) : pg_Ev S Λ YX6_lay (d + 2) [.ref 19, .int (nI m), .ref 3, .ref 13] M (fun r M' => r = none ∧ (rc_G M' (G.marked (fun j => if j = m then some (G.s, G.fl) else G.mk j)) ∧ rc_out M M')) := by
  have hcl : (nI m).toNatClampNeg = m := nI_clamp (by omega)
  refine oX6_lay (sX6_lay_0 (Q0 := fun M' => rc_S M' (109 + 11 * m) G.s ∧ pg_fr [109 + 11 * m, 109 + 11 * m + 1, 109 + 11 * m + 2, 109 + 11 * m + 3, 109 + 11 * m + 4] M M') (Q1 := fun M' => rc_S M' (109 + 11 * m) G.s ∧ rc_F M' (114 + 11 * m) G.fl ∧ pg_fr [109 + 11 * m, 109 + 11 * m + 1, 109 + 11 * m + 2, 109 + 11 * m + 3, 109 + 11 * m + 4, 114 + 11 * m, 114 + 11 * m + 1, 114 + 11 * m + 2, 114 + 11 * m + 3] M M') hF.x6 (by rw [hcl]; exact hF.ms hm) (by rw [hcl]; exact hF.mf hm) (vp_in_nI hm (by decide)) ?_ ?_ ?_)
  · rw [hcl]; exact rc_copyFrom (hF.ms hm) hF.now hg.s hk.s.1 (by omega)
  · rintro M1 ⟨a1, a2⟩
    rw [hcl]
    refine pg_Ev.imp ?_ (rc_feltCopy (hF.mf hm) hF.felt (hg.f.fr (fun j hj => a2.1 _ (by simp; omega))) (by omega))
    rintro r M2 ⟨e1, e2, e3⟩
    exact ⟨e1, a1.keep e3 (fun i hi => by simp; omega), e2, (a2.mono (fun b hb => by simp at hb ⊢; omega)).trans (e3.mono (fun b hb => by simp at hb ⊢; omega))⟩
  · rintro M1 _ M2 ⟨a1, a2, a3⟩
    rw [hcl, show vp_nar .boolean 1 = 1 from b2i_vn true]
    refine ⟨rfl, hg.marked (fun b h1 h2 => by rw [pg_si_ne h2]; exact a3.1 b (by simp; omega)) (fun b h1 => a3.2.1 b (by simp; omega)) a3.2.2 (fun k hk4 => ?_), fun b hb => ⟨by rw [pg_si_ne (by omega)]; exact a3.1 b (by simp; omega), a3.2.1 b (by simp; omega)⟩⟩
    rw [pg_si_at]
    by_cases e : k = m
    · subst e
      rw [pk_us]
      refine ⟨by simp; rfl, fun t f q => ?_⟩
      simp at q
      rw [← q.1, ← q.2]
      exact ⟨a1.fr (fun j hj => by rw [pg_si_ne (by omega)]), a2.fr (fun j hj => by rw [pg_si_ne (by omega)])⟩
    · rw [pk_un e]
      simp only [e, if_false]
      refine ⟨by rw [a3.1 23 (by simp; omega)]; exact (hg.m k hk4).1, fun t f q => ⟨((hg.m k hk4).2 t f q).1.fr (fun j hj => ?_), ((hg.m k hk4).2 t f q).2.fr (fun j hj => ?_)⟩⟩
      · rw [pg_si_ne (by omega)]; exact a3.1 _ (by simp; omega)
      · rw [pg_si_ne (by omega)]; exact a3.1 _ (by simp; omega)
theorem rc_goBack {m : Nat} (hm : m < 4) (hF : pg_full Λ) (hg : rc_G M G) (hk : sp_okG G h) : pg_Ev S Λ YX6_goBack (d + 2) [.ref 19, .int (nI m), .ref 3, .ref 13] M (fun r M' => ∃ v, r = some (.int v) ∧ (v = (sp_qmark G (nI m) true).1 ∧ rc_G M' (sp_qmark G (nI m) true).2 ∧ rc_out M M')) := by
  have hcl : (nI m).toNatClampNeg = m := nI_clamp (by omega)
  have hi : sp_ix 4 (nI m) = some m := sp_ix_nI (by decide) hm
  have g1 := (hg.m m hm).1
  cases ht : G.mk m with
  | none =>
    have e : sp_qmark G (nI m) true = (0, G) := by unfold sp_qmark; rw [hi]; simp only [ht]; rfl
    rw [e]
    rw [ht] at g1
    refine oX6_goBack (sX6_goBack_0 (Q0 := fun _ => True) (Q1 := fun _ => True) hF.x6 hF.now hF.felt (vp_in_nI hm (by decide)) ?_ ?_ ?_ ?_)
    rotate_left 3
    · intro _; exact ⟨0, rfl, rfl, hg, rc_out.rfl'⟩
    all_goals (intro c; rw [hcl, g1] at c; exact absurd rfl c)
  | some q =>
    obtain ⟨t, f⟩ := q
    have e : sp_qmark G (nI m) true = (1, G.back t [] f) := by unfold sp_qmark; rw [hi]; simp only [ht]; rfl
    rw [e]
    rw [ht] at g1
    obtain ⟨g2, g3⟩ := (hg.m m hm).2 t f ht
    obtain ⟨k2, k3⟩ := hk.m m t f ht
    refine oX6_goBack (sX6_goBack_0 (Q0 := fun M' => rc_S M' 3 t ∧ pg_fr [3, 3 + 1, 3 + 2, 3 + 3, 3 + 4] M M') (Q1 := fun M' => rc_S M' 3 t ∧ rc_F M' 13 f ∧ pg_fr [3, 4, 5, 6, 7, 13, 14, 15, 16] M M') hF.x6 hF.now hF.felt (vp_in_nI hm (by decide)) ?_ ?_ ?_ ?_)
    · intro _; rw [hcl]; exact rc_copyFrom hF.now (hF.ms hm) g2 k2.1 (by omega)
    · rintro _ M1 ⟨a1, a2⟩
      rw [hcl]
      refine pg_Ev.imp ?_ (rc_feltCopy hF.felt (hF.mf hm) (g3.fr (fun j hj => a2.1 _ (by simp; omega))) (by omega))
      rintro r M2 ⟨e1, e2, e3⟩
      exact ⟨e1, a1.keep e3 (fun i hi => by simp; omega), e2, (a2.mono (fun b hb => by simp at hb ⊢; omega)).trans (e3.mono (fun b hb => by simp at hb ⊢; omega))⟩
    · rintro _ M1 _ M2 ⟨a1, a2, a3⟩
      obtain ⟨u, u1, u2, u3, u4, u5⟩ := hg.u
      refine ⟨1, rfl, rfl, hg.back (fun b h1 => by rw [pg_si_ne (by omega)]; exact a3.1 b (by simp; omega)) (fun b h1 => a3.2.1 b (by simp; omega)) a3.2.2 (a1.fr (fun j hj => by rw [pg_si_ne (by omega)])) (a2.fr (fun j hj => by rw [pg_si_ne (by omega)])) ⟨u, u1, ?_, ?_, by simp, fun j s q => by simp at q⟩, fun b hb => ⟨by rw [pg_si_ne (by omega)]; exact a3.1 b (by simp; omega), a3.2.1 b (by simp; omega)⟩⟩
      · rw [pg_si_at, pk_un (by decide), a3.1 19 (by simp)]; exact u2
      · rw [pg_si_at, pk_us]; rfl
    · intro c; rw [hcl, g1] at c; exact absurd c (show ¬ (1 : Int32) = 0 by decide)
theorem rc_mark {x : Int32} (back : Bool) (hF : pg_full Λ) (hg : rc_G M G) (hk : sp_okG G h) : pg_Ev S Λ YX10_mark (d + 3) [.ref 0, .int x, .int (b2i back)] M (fun r M' => ∃ v, r = some (.int v) ∧ (v = (sp_qmark G x back).1 ∧ rc_G M' (sp_qmark G x back).2 ∧ rc_out M M')) := by
  cases hi : sp_ix 4 x with
  | none =>
    have e : sp_qmark G x back = (0, G) := by unfold sp_qmark; rw [hi]
    rw [e]
    have hz := mt (sp_ix_iff (n := 4) (x := x) (by decide)).mp (by rw [hi]; simp)
    have h9 : ∀ c : ¬ x < 0, x < 4 → False := fun c c2 => hz ⟨c, fun q => (fa_of_lt c2).2.1 q⟩
    refine oX10_mark (sX10_mark_0 (Q0 := fun _ => True) (Q1 := fun _ _ => True) hF.x10 hF.x6 (fun _ => ⟨0, rfl, rfl, hg, rc_out.rfl'⟩) (fun c c2 => (h9 c c2).elim) (fun c c2 => (h9 c c2).elim) (fun c c2 => (h9 c c2).elim) (fun c c2 => (h9 c c2).elim) (fun c c2 => (h9 c c2).elim) (fun _ _ => ⟨0, rfl, rfl, hg, rc_out.rfl'⟩))
  | some m =>
    obtain ⟨hm, rfl⟩ := (sp_ix_some (by decide)).mp hi
    have n0 : ¬ nI m < 0 := nI_pos (by omega)
    have n4 : nI m < 4 := nI_lt (b := 4) hm (by decide)
    cases back with
    | false =>
      have e : sp_qmark G (nI m) false = (1, G.marked (fun j => if j = m then some (G.s, G.fl) else G.mk j)) := by unfold sp_qmark; rw [hi]; rfl
      rw [e]
      refine oX10_mark (sX10_mark_0 (Q0 := fun M' => rc_G M' (G.marked (fun j => if j = m then some (G.s, G.fl) else G.mk j)) ∧ rc_out M M') (Q1 := fun _ _ => True) hF.x10 hF.x6 (fun c => absurd c n0) (fun _ _ _ => rc_lay hm hF hg hk) (fun _ _ _ M1 q => ⟨1, rfl, rfl, q⟩) (fun _ _ c => absurd rfl c) (fun _ _ c => absurd rfl c) (fun _ _ c => absurd rfl c) (fun _ c => absurd n4 c))
    | true =>
      refine oX10_mark (sX10_mark_0 (Q0 := fun _ => True) (Q1 := fun v M' => v = (sp_qmark G (nI m) true).1 ∧ rc_G M' (sp_qmark G (nI m) true).2 ∧ rc_out M M') hF.x10 hF.x6 (fun c => absurd c n0) (fun _ _ c => absurd c (by decide)) (fun _ _ c => absurd c (by decide)) (fun _ _ _ => rc_goBack hm hF hg hk) (fun _ _ _ v M1 q => ⟨v, rfl, q⟩) (fun _ _ _ v M1 q => ?_) (fun _ c => absurd n4 c))
      rw [q.1]
      unfold sp_qmark
      rw [hi]
      simp only [if_true]
      cases G.mk m with
      | none => exact b2i_nar false
      | some z => exact b2i_nar true
theorem rc_laws (hF : pg_full Λ) (hg : rc_G M G) (hk : sp_okG G h) : pg_Ev S Λ YX10_laws (d + 3) [.ref 0] M (fun r M' => ∃ v, r = some (.int v) ∧ (v = nI (sp_laws G.L G.s) ∧ rc_G M' G ∧ rc_out M M')) := by
  refine oX10_laws (sX10_laws_0 (Q0 := fun v M' => v = nI (sp_laws G.L G.s) ∧ M' = M) hF.x10 hF.now (rc_lawBits hF.now (hg.d.x5 hF) hg.s hg.l hk.l hk.s.1) ?_)
  rintro v M1 ⟨rfl, rfl⟩; exact ⟨_, rfl, rfl, hg, rc_out.rfl'⟩
theorem rc_free (hF : pg_full Λ) (hg : rc_G M G) (hk : sp_okG G h) : pg_Ev S Λ YX10_free (d + 2) [.ref 0] M (fun r M' => ∃ v, r = some (.int v) ∧ (v = nI (sp_free G.s) ∧ rc_G M' G ∧ rc_out M M')) := by
  refine oX10_free (sX10_free_0 (Q0 := fun v M' => v = nI (sp_free G.s) ∧ M' = M) hF.x10 hF.now (rc_freePegs hF.now hg.s hk.s.1) ?_)
  rintro v M1 ⟨rfl, rfl⟩; exact ⟨_, rfl, rfl, hg, rc_out.rfl'⟩
theorem rc_peg {x w : Int32} (hF : pg_full Λ) (hg : rc_G M G) (hk : sp_okG G h) : pg_Ev S Λ YX10_peg (d + 1) [.ref 0, .int x, .int w] M (fun r M' => ∃ v, r = some (.int v) ∧ (v = sp_qpeg G x w ∧ rc_G M' G ∧ rc_out M M')) := by
  have h8 := hk.s.1.1
  have e4 : M.1 3 4 = nI (G.s 4 0) := hg.s.1
  cases hi : sp_ix (G.s 4 0) x with
  | none =>
    have e : sp_qpeg G x w = -2 := by unfold sp_qpeg; rw [hi]
    rw [e]
    have hz := mt (sp_ix_iff (n := G.s 4 0) (x := x) (by omega)).mp (by rw [hi]; simp)
    have h9 : ∀ c : ¬ x < 0, x < M.1 3 4 → False := fun c c2 => hz ⟨c, fun q => by rw [e4] at c2; exact (fa_of_lt c2).2.1 q⟩
    refine oX10_peg (sX10_peg_0 (Q0 := fun _ _ => True) hF.x10 hF.now (fun _ => ⟨_, rfl, rfl, hg, rc_out.rfl'⟩) (fun c c2 => (h9 c c2).elim) (fun c c2 => (h9 c c2).elim) (fun c c2 => (h9 c c2).elim) (fun c c2 => (h9 c c2).elim) (fun c c2 => (h9 c c2).elim) (fun _ _ => ⟨_, rfl, rfl, hg, rc_out.rfl'⟩))
  | some p =>
    obtain ⟨hp, rfl⟩ := (sp_ix_some (by omega)).mp hi
    have hcl : (nI p).toNatClampNeg = p := nI_clamp (by omega)
    have e : sp_qpeg G (nI p) w = if w = 0 then nI (G.s 3 p) else if w = 1 then sp_oI (sp_by G.s p) else -2 := by unfold sp_qpeg; rw [hi]
    rw [e]
    have n4 : nI p < M.1 3 4 := by rw [e4]; exact nI_lt hp (by omega)
    refine oX10_peg (sX10_peg_0 (Q0 := fun v M' => v = sp_oI (sp_by G.s p) ∧ M' = M) hF.x10 hF.now (fun c => absurd c (nI_pos (by omega))) (fun _ _ c1 c2 => ⟨_, rfl, by rw [if_neg c1, if_neg c2], hg, rc_out.rfl'⟩) (fun _ _ _ _ => ?_) ?_ (fun _ _ _ => vp_in_nI (by omega) (by decide)) (fun _ _ c1 => ⟨_, rfl, by rw [if_pos c1, hcl]; exact hg.s.2.2.2 p hp, hg, rc_out.rfl'⟩) (fun _ c => absurd n4 c))
    · refine pg_Ev.imp ?_ (rc_heldBy (by omega) hF.now hg.s hk.s.1)
      rintro r M1 ⟨v, e1, e2, e3⟩
      exact ⟨v, e1, sp_by_of hk.s.1 e2, e3⟩
    · rintro _ _ c1 c2 v M1 ⟨rfl, rfl⟩
      exact ⟨_, rfl, by rw [if_neg c1, if_pos c2], hg, rc_out.rfl'⟩
theorem rc_cloth {x w : Int32} (hh : h < 2 ^ 30) (hF : pg_full Λ) (hg : rc_G M G) (hk : sp_okG G h) : pg_Ev S Λ YX10_cloth (d + 3) [.ref 0, .int x, .int w] M (fun r M' => ∃ v, r = some (.int v) ∧ (v = sp_qcloth G x w ∧ rc_G M' G ∧ rc_out M M')) := by
  have h6 := hk.l.1
  have h41 := hk.s.1.2.1
  have hL := hg.d.x5 hF
  have gdl := hg.d.l
  have hhas := fun d => rc_has' (S := S) (d := d) (x := x) hL hg.l hk.l
  cases hi : sp_ix (G.L 4 0) x with
  | none =>
    have e : sp_qcloth G x w = -1 := by unfold sp_qcloth; rw [hi]
    rw [e]
    rw [hi] at hhas
    refine oX10_cloth (sX10_cloth_0 (Q0 := fun v M' => v = b2i (none : Option Nat).isSome ∧ M' = M) (Q1 := fun _ _ => True) (Q2 := fun _ _ => True) (Q3 := fun _ _ => True) (Q4 := fun _ _ => True) (Q5 := fun _ _ => True) hF.x10 hL hF.now (hhas _) ?_ ?_ ?_ ?_ ?_ ?_ ?_ ?_ ?_ ?_ ?_ ?_ ?_ ?_ ?_ ?_ ?_ ?_ ?_ ?_ ?_ ?_ ?_ ?_)
    rotate_left 23
    · rintro v M1 ⟨rfl, rfl⟩ _; exact ⟨_, rfl, rfl, hg, rc_out.rfl'⟩
    all_goals (rintro v M1 ⟨rfl, rfl⟩ c; exact absurd rfl c)
  | some c =>
    obtain ⟨hc, rfl⟩ := (sp_ix_some (by omega)).mp hi
    have hcl : (nI c).toNatClampNeg = c := nI_clamp (by omega)
    have e : sp_qcloth G (nI c) w = if w = 0 then nI (G.L 0 c) else if w = 1 then nI (G.s 0 c) else if w = 2 then nI (G.s 1 c) else if w = 3 then nI (G.s 2 c) else if w = 4 then b2i (sp_law G.L G.s c) else if w = 5 then b2i (sp_turn G.s c) else if w = 6 then nI (sp_roomBy G.L c (sp_pc (G.s 2 c))) else if w = 7 then nI (sp_pull G.L G.E c (G.s 0 c) (sp_wind G.L (G.s 4 1))) else -1 := by unfold sp_qcloth; rw [hi]
    rw [e]
    rw [hi] at hhas
    have hcs := hg.s.2.2.1 c (by omega)
    refine oX10_cloth (sX10_cloth_0 (Q0 := fun v M' => v = b2i (some c).isSome ∧ M' = M) (Q1 := fun v M' => v = b2i (sp_law G.L G.s c) ∧ M' = M) (Q2 := fun v M' => v = b2i (sp_turn G.s c) ∧ M' = M) (Q3 := fun v M' => v = nI (sp_roomBy G.L c (sp_pc (G.s 2 c))) ∧ M' = M) (Q4 := fun v M' => v = nI (sp_wind G.L (G.s 4 1)) ∧ M' = M) (Q5 := fun v M' => v = nI (sp_pull G.L G.E c (G.s 0 c) (sp_wind G.L (G.s 4 1))) ∧ pg_fr [M.2.2 0 8 + 11] M M') hF.x10 hL hF.now (hhas _) ?_ ?_ ?_ ?_ ?_ ?_ ?_ ?_ ?_ ?_ ?_ ?_ ?_ ?_ ?_ ?_ ?_ ?_ ?_ ?_ ?_ ?_ ?_ ?_)
    · rintro v M1 ⟨rfl, rfl⟩ _ _; exact hL
    · rintro v M1 ⟨rfl, rfl⟩ _ _; exact vp_in_nI (by omega) (by decide)
    · rintro v M1 ⟨rfl, rfl⟩ _ c0; exact ⟨_, rfl, by rw [if_pos c0, hcl]; exact (hg.l.2.2.2.2.2.2.1 c hc).1, hg, rc_out.rfl'⟩
    · rintro v M1 ⟨rfl, rfl⟩ _ _ _; exact vp_in_nI (by omega) (by decide)
    · rintro v M1 ⟨rfl, rfl⟩ _ c0 c1; exact ⟨_, rfl, by rw [if_neg c0, if_pos c1, hcl]; exact hcs.1, hg, rc_out.rfl'⟩
    · rintro v M1 ⟨rfl, rfl⟩ _ _ _ _; exact vp_in_nI (by omega) (by decide)
    · rintro v M1 ⟨rfl, rfl⟩ _ c0 c1 c2; exact ⟨_, rfl, by rw [if_neg c0, if_neg c1, if_pos c2, hcl]; exact hcs.2.1, hg, rc_out.rfl'⟩
    · rintro v M1 ⟨rfl, rfl⟩ _ _ _ _ _; exact vp_in_nI (by omega) (by decide)
    · rintro v M1 ⟨rfl, rfl⟩ _ c0 c1 c2 c3; exact ⟨_, rfl, by rw [if_neg c0, if_neg c1, if_neg c2, if_pos c3, hcl]; exact hcs.2.2, hg, rc_out.rfl'⟩
    · rintro v M1 ⟨rfl, rfl⟩ _ c0 c1 c2 c3 c4; exact rc_isLaw hc hF.now hL hg.s hg.l hk.l hk.s.1
    · rintro v M1 ⟨rfl, rfl⟩ _ c0 c1 c2 c3 c4 v2 M2 ⟨rfl, rfl⟩ c5
      exact ⟨_, rfl, by rw [if_neg c0, if_neg c1, if_neg c2, if_neg c3, if_pos c4]; exact c5.symm, hg, rc_out.rfl'⟩
    · rintro v M1 ⟨rfl, rfl⟩ _ c0 c1 c2 c3 c4 v2 M2 ⟨rfl, rfl⟩ c5
      exact ⟨_, rfl, by rw [if_neg c0, if_neg c1, if_neg c2, if_neg c3, if_pos c4, ts_nf (fun q => c5 (b2i_0.mpr q))]; rfl, hg, rc_out.rfl'⟩
    · rintro v M1 ⟨rfl, rfl⟩ _ c0 c1 c2 c3 c4 c5; exact rc_isTurned (by omega) hF.now hg.s hk.s.1
    · rintro v M1 ⟨rfl, rfl⟩ _ c0 c1 c2 c3 c4 c5 v2 M2 ⟨rfl, rfl⟩ c6
      exact ⟨_, rfl, by rw [if_neg c0, if_neg c1, if_neg c2, if_neg c3, if_neg c4, if_pos c5]; exact c6.symm, hg, rc_out.rfl'⟩
    · rintro v M1 ⟨rfl, rfl⟩ _ c0 c1 c2 c3 c4 c5 v2 M2 ⟨rfl, rfl⟩ c6
      exact ⟨_, rfl, by rw [if_neg c0, if_neg c1, if_neg c2, if_neg c3, if_neg c4, if_pos c5, ts_nf (fun q => c6 (b2i_0.mpr q))]; rfl, hg, rc_out.rfl'⟩
    · rintro v M1 ⟨rfl, rfl⟩ _ c0 c1 c2 c3 c4 c5 c6; exact rc_roomOf hc hF.now hL hg.s hg.l hk.l hk.s.1
    · rintro v M1 ⟨rfl, rfl⟩ _ c0 c1 c2 c3 c4 c5 c6 v2 M2 ⟨rfl, rfl⟩
      exact ⟨_, rfl, by rw [if_neg c0, if_neg c1, if_neg c2, if_neg c3, if_neg c4, if_neg c5, if_pos c6], hg, rc_out.rfl'⟩
    · rintro v M1 ⟨rfl, rfl⟩ _ c0 c1 c2 c3 c4 c5 c6 c7; exact vp_in_nI (by omega) (by decide)
    · rintro v M1 ⟨rfl, rfl⟩ _ c0 c1 c2 c3 c4 c5 c6 c7; exact hL
    · rintro v M1 ⟨rfl, rfl⟩ _ c0 c1 c2 c3 c4 c5 c6 c7
      rw [hg.s.2.1]
      exact rc_windAt (by omega) hL hg.l hk.l
    · rintro v M1 ⟨rfl, rfl⟩ _ c0 c1 c2 c3 c4 c5 c6 c7 v2 M2 ⟨rfl, rfl⟩
      rw [hcl, show M2.1 4 c = nI (G.s 0 c) from hcs.1]
      exact rc_pullOn hc hL hg.l hk.l
    · rintro v M1 ⟨rfl, rfl⟩ _ c0 c1 c2 c3 c4 c5 c6 c7 v2 M2 ⟨rfl, rfl⟩ v3 M3 ⟨rfl, f⟩
      have p : pg_pf rc_q M2 M3 := pg_pf.of f (fun b hb => by simp at hb; subst hb; exact hg.d.q11)
      exact ⟨_, rfl, by rw [if_neg c0, if_neg c1, if_neg c2, if_neg c3, if_neg c4, if_neg c5, if_neg c6, if_pos c7], hg.q p, rc_out.q p⟩
    · rintro v M1 ⟨rfl, rfl⟩ _ c0 c1 c2 c3 c4 c5 c6 c7
      exact ⟨_, rfl, by rw [if_neg c0, if_neg c1, if_neg c2, if_neg c3, if_neg c4, if_neg c5, if_neg c6, if_neg c7], hg, rc_out.rfl'⟩
    · rintro v M1 ⟨rfl, rfl⟩ c0; exact absurd c0 (show ¬ (1 : Int32) = 0 by decide)
theorem rc_count {w : Int32} (hh : h < 2 ^ 30) (hF : pg_full Λ) (hg : rc_G M G) (hk : sp_okG G h) : pg_Ev S Λ YX10_count (d + 4) [.ref 0, .int w] M (fun r M' => ∃ v, r = some (.int v) ∧ (v = sp_qcount G w ∧ rc_G M' G ∧ rc_out M M')) := by
  have h41 := hk.s.1.2.1
  have hL := hg.d.x5 hF
  have hl := hg.l
  have fin : ∀ v : Int32, v = sp_qcount G w → ∃ u, some (Value.int v) = some (Value.int u) ∧ (u = sp_qcount G w ∧ rc_G M G ∧ rc_out M M) := fun v e => ⟨v, rfl, e, hg, rc_out.rfl'⟩
  obtain ⟨ut, u1, u2, u3, u4, u5⟩ := hg.u
  refine oX10_count (sX10_count_0 (Q0 := fun v M' => v = sp_left G.L G.s ∧ M' = M) (Q1 := fun v M' => v = nI (sp_wind G.L (G.s 4 1)) ∧ M' = M) (Q2 := fun v M' => v = nI (sp_worth G.L (sp_laws G.L G.s)) ∧ M' = M) (Q3 := fun v M' => v = nI (sp_turns G.L G.s) ∧ M' = M) hF.x10 hL hF.now (hg.d.x1 hF) hF.felt hF.x6 hF.x7 ?_ ?_ ?_ ?_ ?_ ?_ ?_ ?_ ?_ ?_ ?_ ?_ ?_ ?_ ?_ ?_ ?_ ?_)
  · intro c0; exact fin _ (by unfold sp_qcount; rw [if_pos c0]; exact hl.1)
  · intro c0 c1; exact fin _ (by unfold sp_qcount; rw [if_neg c0, if_pos c1]; exact hg.s.1)
  · intro c0 c1 c2; exact fin _ (by unfold sp_qcount; rw [if_neg c0, if_neg c1, if_pos c2]; exact hl.2.2.2.1)
  · intro c0 c1 c2 c3; exact pg_Ev.mono (by omega) (rc_roomLeft (d := 0) hF.now hL hg.s hl hk.l hk.s.1)
  · rintro c0 c1 c2 c3 v M1 ⟨rfl, rfl⟩; exact fin _ (by unfold sp_qcount; rw [if_neg c0, if_neg c1, if_neg c2, if_pos c3])
  · intro c0 c1 c2 c3 c4; exact fin _ (by unfold sp_qcount; rw [if_neg c0, if_neg c1, if_neg c2, if_neg c3, if_pos c4]; exact hg.s.2.1)
  · intro c0 c1 c2 c3 c4 c5; rw [hg.s.2.1]; exact pg_Ev.mono (by omega) (rc_windAt (d := 0) (by omega) hL hl hk.l)
  · rintro c0 c1 c2 c3 c4 c5 v M1 ⟨rfl, rfl⟩; exact fin _ (by unfold sp_qcount; rw [if_neg c0, if_neg c1, if_neg c2, if_neg c3, if_neg c4, if_pos c5])
  · intro c0 c1 c2 c3 c4 c5 c6; exact rc_worthOfLaws hF.now hL hg.s hl hk.l hk.s.1
  · rintro c0 c1 c2 c3 c4 c5 c6 v M1 ⟨rfl, rfl⟩; exact fin _ (by unfold sp_qcount; rw [if_neg c0, if_neg c1, if_neg c2, if_neg c3, if_neg c4, if_neg c5, if_pos c6])
  · intro c0 c1 c2 c3 c4 c5 c6 c7; exact pg_Ev.mono (by omega) (rc_turnedBits (d := 0) hF.now hL hg.s hl hk.l hk.s.1)
  · rintro c0 c1 c2 c3 c4 c5 c6 c7 v M1 ⟨rfl, rfl⟩; exact fin _ (by unfold sp_qcount; rw [if_neg c0, if_neg c1, if_neg c2, if_neg c3, if_neg c4, if_neg c5, if_neg c6, if_pos c7])
  · intro c0 c1 c2 c3 c4 c5 c6 c7 c8; exact fin _ (by unfold sp_qcount; rw [if_neg c0, if_neg c1, if_neg c2, if_neg c3, if_neg c4, if_neg c5, if_neg c6, if_neg c7, if_pos c8]; exact hl.2.2.2.2.2.1)
  · intro c0 c1 c2 c3 c4 c5 c6 c7 c8 c9; exact fin _ (by unfold sp_qcount; rw [if_neg c0, if_neg c1, if_neg c2, if_neg c3, if_neg c4, if_neg c5, if_neg c6, if_neg c7, if_neg c8, if_pos c9]; exact hg.p.1)
  · intro c0 c1 c2 c3 c4 c5 c6 c7 c8 c9 ca; exact fin _ (by unfold sp_qcount; rw [if_neg c0, if_neg c1, if_neg c2, if_neg c3, if_neg c4, if_neg c5, if_neg c6, if_neg c7, if_neg c8, if_neg c9, if_pos ca]; exact hg.f.1)
  · intro c0 c1 c2 c3 c4 c5 c6 c7 c8 c9 ca cb; exact fin _ (by unfold sp_qcount; rw [if_neg c0, if_neg c1, if_neg c2, if_neg c3, if_neg c4, if_neg c5, if_neg c6, if_neg c7, if_neg c8, if_neg c9, if_neg ca, if_pos cb]; exact u3)
  · intro c0 c1 c2 c3 c4 c5 c6 c7 c8 c9 ca cb cc; exact fin _ (by unfold sp_qcount; rw [if_neg c0, if_neg c1, if_neg c2, if_neg c3, if_neg c4, if_neg c5, if_neg c6, if_neg c7, if_neg c8, if_neg c9, if_neg ca, if_neg cb, if_pos cc]; exact hg.t.1)
  · intro c0 c1 c2 c3 c4 c5 c6 c7 c8 c9 ca cb cc; exact fin _ (by unfold sp_qcount; rw [if_neg c0, if_neg c1, if_neg c2, if_neg c3, if_neg c4, if_neg c5, if_neg c6, if_neg c7, if_neg c8, if_neg c9, if_neg ca, if_neg cb, if_neg cc])
end PGP
