/-! the reference: marks, clashes, mends -/
def sp_mmay (L : sp_N) (laws set : Nat) : Bool := decide (set ^^^ (set &&& laws) = 0) && decide (sp_cl L (laws ^^^ (laws &&& set)) = 0)
def sp_mnd (L : sp_N) (laws : Nat) : Nat → Option Nat
  | 0 => none
  | n + 1 => if sp_mmay L laws n = true ∧ (∀ b, sp_mnd L laws n = some b → sp_worth L n < sp_worth L b) then some n else sp_mnd L laws n
def sp_qmend (G : sp_G) (w : Int32) : Int32 := if w = 0 then nI (((sp_mnd G.L (sp_laws G.L G.s) (2 ^ G.L 4 0)).map (sp_worth G.L)).getD 0) else if w = 1 then sp_oI (sp_mnd G.L (sp_laws G.L G.s) (2 ^ G.L 4 0)) else -1
theorem sp_mnd_lt {L : sp_N} {laws : Nat} : ∀ n b, sp_mnd L laws n = some b → b < n ∧ sp_mmay L laws b = true := by
  intro n
  induction n with
  | zero => intro b h; cases h
  | succ n ih =>
    intro b h
    simp only [sp_mnd] at h
    split at h
    · rename_i hq; cases h; exact ⟨by omega, hq.1⟩
    · have := ih b h; exact ⟨by omega, this.2⟩
theorem sp_worth_le {L : sp_N} {E : sp_E} (hk : sp_okL L E) (set : Nat) : sp_worth L set ≤ 594 := by
  unfold sp_worth
  have h1 := fb_sm_bound (f := fun c => if set.testBit c then L 3 c else 0) (c := 99) (n := L 4 0) (fun k _ => by have := (hk.2.1 k).2.2.2; split <;> omega)
  have h6 := hk.1
  have : L 4 0 * 99 ≤ 6 * 99 := Nat.mul_le_mul_right _ h6
  omega
theorem sp_cl_le {L : sp_N} {E : sp_E} (hk : sp_okL L E) (set : Nat) : sp_cl L set ≤ 36 := by
  unfold sp_cl
  have h6 := hk.1
  have h1 := fb_sm_bound (f := fun a => fb_ct (fun e => decide (L 6 (6 * a + e) = 1) && (set.testBit a && set.testBit e)) a) (c := 6) (n := L 4 0) (fun k hk1 => by have := fb_ct_le (fun e => decide (L 6 (6 * k + e) = 1) && (set.testBit k && set.testBit e)) k; omega)
  have : L 4 0 * 6 ≤ 6 * 6 := Nat.mul_le_mul_right _ h6
  omega
section PGR
variable {S : pg_S} {Λ : pg_L} {d h : Nat} {M : pg_M} {G : sp_G} {L : sp_N} {E : sp_E}
theorem rm_mark {x : Int32} (back : Bool) (hR : pg_isX11 Λ) (hg : rm_G M G) : pg_Ev S Λ YX11_mark (d + 1) [.ref 207, .int x, .int (b2i back)] M (fun r M' => ∃ v, r = some (.int v) ∧ (v = (sp_qmark G x back).1 ∧ rm_G M' (sp_qmark G x back).2 ∧ pg_fr rm_X M M')) := by
  have hg0 := hg.th
  have w3 : decide (¬ x < 0 ∧ ¬ (3 : Int32) < x) = (sp_ix 4 x).isSome := sp_ix_win (n := 3) (by decide) rfl
  cases hi : sp_ix 4 x with
  | none =>
    have e : sp_qmark G x back = (0, G) := by unfold sp_qmark; rw [hi]
    rw [e]
    refine oX11_mark (sX11_mark_0 (Q0 := fun v M' => v = b2i (decide (¬ x < 0 ∧ ¬ (3 : Int32) < x)) ∧ M' = pg_si M 207 0 0) hR rm_within ?_ ?_ ?_ ?_ ?_)
    · rintro x1 M1 ⟨rfl, rfl⟩ c; exact ⟨_, rfl, rfl, hg0, rm_X.th⟩
    all_goals (rintro x1 M1 ⟨rfl, rfl⟩ c; rw [w3, hi] at c; exact absurd rfl c)
  | some m =>
    obtain ⟨hm, rfl⟩ := (sp_ix_some (by decide)).mp hi
    have hcl : (nI m).toNatClampNeg = m := nI_clamp (by omega)
    have hat : (54 : Int32) * (1 + nI m) = nI (54 * (1 + m)) := by rw [show (1 : Int32) = nI 1 from rfl, nI_add, show (54 : Int32) = nI 54 from rfl, pk_mul]
    have v1 : vp_nar .boolean 1 = 1 := rfl
    obtain ⟨gl, gn, gs, gf, gu, gm, gp, gt, gw⟩ := id hg0
    have hM1 : pg_fr [222] (pg_si M 207 0 0) (pg_si (pg_si M 207 0 0) 222 m 1) := pg_fr.si (by simp)
    have h21 : (pg_si (pg_si M 207 0 0) 222 m 1).1 221 = (pg_si M 207 0 0).1 221 := by rw [pg_si_ne (by decide)]
    refine oX11_mark (sX11_mark_0 (Q0 := fun v M' => v = b2i (decide (¬ nI m < 0 ∧ ¬ (3 : Int32) < nI m)) ∧ M' = pg_si M 207 0 0) hR rm_within ?_ ?_ ?_ ?_ ?_)
    · rintro x1 M1 ⟨rfl, rfl⟩ c; rw [w3, hi] at c; exact absurd c (show ¬ (1 : Int32) = 0 by decide)
    · rintro x1 M1 ⟨rfl, rfl⟩ c c2
      have hb : back = false := b2i_0.mp c2
      subst hb
      have e : sp_qmark G (nI m) false = (1, G.marked (fun j => if j = m then some (G.s, G.fl) else G.mk j)) := by unfold sp_qmark; rw [hi]; rfl
      rw [e]
      refine sX11_mark_29 (Q0 := fun M' => M' = rm_cp (pg_si (pg_si M 207 0 0) 222 m 1) 0 (54 * (1 + m)) 54) (Q1 := fun _ => True) (Q2 := fun _ => True) (Q3 := fun _ => True) hR (vp_in_nI hm (by decide)) ?_ ?_ (fun _ _ _ _ c => absurd c2 c) (fun _ c => absurd c2 c) (fun _ c => absurd c2 c) (fun _ c => absurd c2 c) (fun c => absurd c2 c) (fun c => absurd c2 c) (fun c => absurd c2 c) (fun c => absurd c2 c) (fun c => absurd c2 c) (fun c => absurd c2 c)
      · intro _ _
        rw [hcl, hat, v1]
        exact rm_copies (f := 0) (n := 54) (by omega) (by omega) (by omega) hR
      · rintro _ _ M2 rfl _
        have hf2 : pg_fr [221, 222] (pg_si M 207 0 0) (rm_cp (pg_si (pg_si M 207 0 0) 222 m 1) 0 (54 * (1 + m)) 54) := (hM1.mono (fun x hx => by simp at hx ⊢; omega)).trans (rm_cp_fr.mono (fun x hx => by simp at hx ⊢; omega))
        have e7 : (rm_cp (pg_si (pg_si M 207 0 0) 222 m 1) 0 (54 * (1 + m)) 54).1 207 = (pg_si M 207 0 0).1 207 := hf2.1 207 (by simp)
        generalize hN : rm_cp (pg_si (pg_si M 207 0 0) 222 m 1) 0 (54 * (1 + m)) 54 = N at *
        have h27 : (pg_si N 207 23 (N.1 207 23)).1 207 = (pg_si M 207 0 0).1 207 := by
          rw [pg_si_at, ← e7]; funext j
          by_cases q : j = 23
          · subst q; rw [pk_us]
          · rw [pk_un q]
        have hne : ∀ b, b ≠ 207 → (pg_si N 207 23 (N.1 207 23)).1 b = N.1 b := fun b q => pg_si_ne q
        have hf3 : pg_fr [207, 221, 222] (pg_si M 207 0 0) (pg_si N 207 23 (N.1 207 23)) := (hf2.mono (fun x hx => by simp at hx ⊢; omega)).trans (pg_fr.si (by simp))
        have hof : ∀ j, (j < 54 * (1 + m) ∨ 54 * (1 + m) + 54 ≤ j) → (pg_si N 207 23 (N.1 207 23)).1 221 j = (pg_si M 207 0 0).1 221 j := fun j hj => by
          rw [hne 221 (by decide), ← hN, rm_cp_out hj, h21]
        refine ⟨_, rfl, rfl, ⟨?_, ⟨by rw [h27]; exact gn.1, fun c hc => by rw [hf3.2.1 216 (by simp)]; exact gn.2 c hc⟩, gs.off (fun j a b => hof j (by omega)), gf.off (fun j a b => hof j (by omega)), gu.fr (by rw [h27]) (fun j a b => hof j (by omega)), fun k hk1 => ?_, ?_, ⟨by rw [h27]; exact gt.1, fun j c q => by rw [hf3.1 208 (by simp)]; exact gt.2 j c q⟩, fun k w q => by rw [hf3.2.1 212 (by simp)]; exact gw k w q⟩, rm_X.th.trans (rm_X.of hf3 (fun x hx => by simp at hx; omega))⟩
        · exact gl.keep hf3 (by simp) (by simp) (by simp)
        · have h22 : (pg_si N 207 23 (N.1 207 23)).1 222 = upd ((pg_si M 207 0 0).1 222) m 1 := by
            rw [hne 222 (by decide), ← hN, rm_cp_fr.1 222 (by simp), pg_si_at]
          rw [h22]
          show upd _ m 1 k = b2i ((fun j => if j = m then some (G.s, G.fl) else G.mk j) k).isSome ∧ ∀ t f, (fun j => if j = m then some (G.s, G.fl) else G.mk j) k = some (t, f) → _
          by_cases q : k = m
          · subst q
            rw [pk_us]
            simp only [if_true]
            refine ⟨rfl, fun t f q2 => ?_⟩
            cases q2
            have g1 : rm_S N (54 * (1 + k)) G.s := by rw [← hN]; exact (gs.off (fun j _ _ => by rw [h21])).cp (by omega)
            have g2 : rm_F N (54 * (1 + k)) G.fl := by rw [← hN]; exact (gf.off (fun j _ _ => by rw [h21])).cp
            exact ⟨g1.off (fun j _ _ => by rw [hne 221 (by decide)]), g2.off (fun j _ _ => by rw [hne 221 (by decide)])⟩
          · rw [pk_un q]
            simp only [q, if_false]
            exact ⟨(gm k hk1).1, fun t f q2 => ⟨((gm k hk1).2 t f q2).1.off (fun j a b => hof j (by omega)), ((gm k hk1).2 t f q2).2.off (fun j a b => hof j (by omega))⟩⟩
        · show rm_P _ G.pl
          unfold rm_P at *
          rw [hf3.1 218 (by simp)]
          exact gp
    · rintro x1 M1 ⟨rfl, rfl⟩ c c2; exact vp_in_nI hm (by decide)
    · rintro x1 M1 ⟨rfl, rfl⟩ c c2 c3
      have hb : back = true := ts_nf (fun q => c2 (b2i_0.mpr q))
      subst hb
      rw [hcl, (gm m hm).1] at c3
      obtain ⟨⟨t, f⟩, htf⟩ := Option.isSome_iff_exists.mp (ts_nf (fun q => c3 (b2i_0.mpr q)))
      have e : sp_qmark G (nI m) true = (1, G.back t [] f) := by unfold sp_qmark; rw [hi]; simp only [if_true]; rw [htf]
      rw [e]
      obtain ⟨mt, mf⟩ := (gm m hm).2 t f htf
      refine sX11_mark_29 (Q0 := fun _ => True) (Q1 := fun _ => True) (Q2 := fun _ => True) (Q3 := fun M' => M' = rm_cp (pg_si (pg_si M 207 0 0) 222 m 1) (54 * (1 + m)) 0 54) hR (vp_in_nI hm (by decide)) (fun c => absurd c c2) (fun c => absurd c c2) (fun c => absurd c c2) (fun c => absurd c c2) (fun c => absurd c c2) (fun c => absurd c c2) (fun _ c => absurd c c2) (fun _ c => absurd c c2) (fun _ c => absurd c c2) ?_ (fun _ _ _ _ c => absurd c c2) ?_
      · intro _ _
        rw [hcl, hat, v1]
        exact rm_copies (t := 0) (n := 54) (by omega) (by omega) (by omega) hR
      · rintro _ _ M2 rfl _
        have hf2 : pg_fr [221, 222] (pg_si M 207 0 0) (rm_cp (pg_si (pg_si M 207 0 0) 222 m 1) (54 * (1 + m)) 0 54) := (hM1.mono (fun x hx => by simp at hx ⊢; omega)).trans (rm_cp_fr.mono (fun x hx => by simp at hx ⊢; omega))
        have e7 : (rm_cp (pg_si (pg_si M 207 0 0) 222 m 1) (54 * (1 + m)) 0 54).1 207 = (pg_si M 207 0 0).1 207 := hf2.1 207 (by simp)
        generalize hN : rm_cp (pg_si (pg_si M 207 0 0) 222 m 1) (54 * (1 + m)) 0 54 = N at *
        have h27 : ∀ j, j ≠ 23 → (pg_si N 207 23 0).1 207 j = (pg_si M 207 0 0).1 207 j := fun j q => by rw [pg_si_at, pk_un q, e7]
        have hne : ∀ b, b ≠ 207 → (pg_si N 207 23 0).1 b = N.1 b := fun b q => pg_si_ne q
        have hf3 : pg_fr [207, 221, 222] (pg_si M 207 0 0) (pg_si N 207 23 0) := (hf2.mono (fun x hx => by simp at hx ⊢; omega)).trans (pg_fr.si (by simp))
        have hof : ∀ j, 54 ≤ j → (pg_si N 207 23 0).1 221 j = (pg_si M 207 0 0).1 221 j := fun j hj => by
          rw [hne 221 (by decide), ← hN, rm_cp_out (by omega), h21]
        have g1 : rm_S N 0 t := by rw [← hN]; exact (mt.off (fun j _ _ => by rw [h21])).cp (by omega)
        have g2 : rm_F N 0 f := by rw [← hN]; exact (mf.off (fun j _ _ => by rw [h21])).cp
        refine ⟨_, rfl, rfl, ⟨?_, ⟨by rw [h27 16 (by decide)]; exact gn.1, fun c hc => by rw [hf3.2.1 216 (by simp)]; exact gn.2 c hc⟩, g1.off (fun j _ _ => by rw [hne 221 (by decide)]), g2.off (fun j _ _ => by rw [hne 221 (by decide)]), ⟨by rw [pg_si_at, pk_us]; rfl, Nat.zero_le _, fun j t hj => by cases hj⟩, fun k hk1 => ?_, ?_, ⟨by rw [h27 2 (by decide)]; exact gt.1, fun j c q => by rw [hf3.1 208 (by simp)]; exact gt.2 j c q⟩, fun k w q => by rw [hf3.2.1 212 (by simp)]; exact gw k w q⟩, rm_X.th.trans (rm_X.of hf3 (fun x hx => by simp at hx; omega))⟩
        · exact gl.keep hf3 (by simp) (by simp) (by simp)
        · have h22 : (pg_si N 207 23 0).1 222 = upd ((pg_si M 207 0 0).1 222) m 1 := by
            rw [hne 222 (by decide), ← hN, rm_cp_fr.1 222 (by simp), pg_si_at]
          rw [h22]
          show _ = b2i (G.mk k).isSome ∧ ∀ t f, G.mk k = some (t, f) → _
          refine ⟨?_, fun t f q2 => ⟨((gm k hk1).2 t f q2).1.off (fun j a b => hof j (by omega)), ((gm k hk1).2 t f q2).2.off (fun j a b => hof j (by omega))⟩⟩
          by_cases q : k = m
          · subst q; rw [pk_us, htf]; rfl
          · rw [pk_un q]; exact (gm k hk1).1
        · show rm_P _ G.pl
          unfold rm_P at *
          rw [hf3.1 218 (by simp)]
          exact gp
    · rintro x1 M1 ⟨rfl, rfl⟩ c c2 c3
      have hb : back = true := ts_nf (fun q => c2 (b2i_0.mpr q))
      subst hb
      rw [hcl, (gm m hm).1, b2i_0] at c3
      have hmn : G.mk m = none := by simpa using c3
      have e : sp_qmark G (nI m) true = (0, G) := by unfold sp_qmark; rw [hi]; simp only [if_true]; rw [hmn]
      rw [e]
      exact ⟨_, rfl, rfl, hg0, rm_X.th⟩
theorem rm_clashesIn {set : Nat} (hc1 : ∀ k, L 6 k ≤ 1) (hset : set < 64) (hR : pg_isX11 Λ) (hl : rm_L M L E) (hk : sp_okL L E) : pg_Ev S Λ YX11_clashesIn (d + 1) [.ref 207, .int (nI set)] M (fun r M' => ∃ v, r = some (.int v) ∧ (v = nI (sp_cl L set) ∧ M' = M)) := by
  have h6 := hk.1
  refine oX11_clashesIn (sX11_clashesIn_0 ?_)
  refine pg_loop (fun a (v : Int32) => pg_At S Λ YX11_clashesIn (d + 1) 4 [(0, .ref 207), (1, .int (nI set)), (2, .int v), (3, .int (nI a))] [] M _) (fun a v => v = nI (fb_sm (fun a => fb_ct (fun e => decide (L 6 (6 * a + e) = 1) && (set.testBit a && set.testBit e)) a) a)) (L 4 0) ?_ ?_ 0 _ (Nat.zero_le _) rfl
  · rintro v rfl
    have c9 : nI (L 4 0) ≤ nI (L 4 0) := nI_le (Nat.le_refl _) (by omega)
    refine sX11_clashesIn_4 (Q0 := fun v M' => v = nI (L 4 0) ∧ M' = M) hR (rm_cloths hR hl) ?_ ?_
    · rintro x1 M1 ⟨rfl, rfl⟩ _; exact ⟨_, rfl, rfl, rfl⟩
    · rintro x1 M1 ⟨rfl, rfl⟩ c; exact absurd c9 c
  · rintro a v ha rfl ih
    have c9 : ¬ nI (L 4 0) ≤ nI a := nI_ge ha (by omega)
    refine sX11_clashesIn_4 (Q0 := fun v M' => v = nI (L 4 0) ∧ M' = M) hR (rm_cloths hR hl) ?_ ?_
    · rintro x1 M1 ⟨rfl, rfl⟩ c; exact absurd c c9
    · rintro x1 M1 ⟨rfl, rfl⟩ _
      refine pg_loop (fun e (v : Int32) => pg_At S Λ YX11_clashesIn (d + 1) 15 [(0, .ref 207), (1, .int (nI set)), (2, .int v), (3, .int (nI a)), (4, .int (nI e))] [] M1 _) (fun e v => v = nI (fb_sm (fun a => fb_ct (fun e => decide (L 6 (6 * a + e) = 1) && (set.testBit a && set.testBit e)) a) a + fb_ct (fun e => decide (L 6 (6 * a + e) = 1) && (set.testBit a && set.testBit e)) e)) a ?_ ?_ 0 _ (Nat.zero_le _) (by rw [show ∀ p, fb_ct p 0 = 0 from fun _ => rfl, Nat.add_zero])
      · rintro v rfl
        have c8 : nI a ≤ nI a := nI_le (Nat.le_refl _) (by omega)
        refine sX11_clashesIn_15 hR (fun _ => ?_) (fun c => absurd c8 c) (fun c => absurd c8 c) (fun c => absurd c8 c) (fun c => absurd c8 c) (fun c => absurd c8 c)
        rw [nI_1]
        exact ih _ (by rw [fb_sm_succ])
      · rintro e v he rfl ih2
        have c8 : ¬ nI a ≤ nI e := nI_ge he (by omega)
        have ei : (32 : Int32) + 6 * nI a + nI e = nI (32 + 6 * a + e) := by rw [show (6 : Int32) = nI 6 from rfl, pk_mul, show (32 : Int32) = nI 32 from rfl, nI_add, nI_add]
        have ev : M1.1 213 ((32 : Int32) + 6 * nI a + nI e).toNatClampNeg = nI (L 6 (6 * a + e)) := by rw [ei, nI_clamp (by omega)]; exact hl.2.2.2.2.2.2.2.1 a e (by omega) (by omega)
        refine sX11_clashesIn_15 hR (fun c => absurd c c8) (fun _ => by rw [ei]; exact vp_in_nI (by omega) (by decide)) (fun _ c1 => ?_) (fun _ c1 c2 => ?_) (fun _ c1 c2 c3 => ?_) (fun _ c1 c2 c3 => ?_)
        rotate_left 3
        · rw [nb_bit' (by omega) (by omega)] at c2 c3
          rw [ev, show (1 : Int32) = nI 1 from rfl, nI_eq (by have := hc1 (6 * a + e); omega) (by omega)] at c1
          rw [nI_1, nI_1]
          refine ih2 _ ?_
          rw [fb_ct_succ, ← Nat.add_assoc]
          simp [c1, c2, c3]
        all_goals rw [nI_1]
        · rw [ev] at c1
          refine ih2 _ ?_
          have : L 6 (6 * a + e) ≠ 1 := fun q => c1 (by rw [q]; rfl)
          rw [fb_ct_succ]; simp [this]
        · rw [nb_bit' (by omega) (by omega)] at c2
          refine ih2 _ ?_
          rw [fb_ct_succ]; simp [c2]
        · rw [nb_bit' (by omega) (by omega)] at c3
          refine ih2 _ ?_
          rw [fb_ct_succ]; simp [c3]
theorem rm_clashes (hR : pg_isX11 Λ) (hg : rm_G M G) (hk : sp_okG G h) : pg_Ev S Λ YX11_clashes (d + 4) [.ref 207] M (fun r M' => ∃ v, r = some (.int v) ∧ (v = nI (sp_cl G.L (sp_laws G.L G.s)) ∧ rm_G M' G ∧ pg_fr rm_X M M')) := by
  have hg0 := hg.th
  have := sp_laws_lt (s := G.s) hk.l
  refine oX11_clashes (sX11_clashes_0 (Q0 := fun v M' => v = nI (sp_laws G.L G.s) ∧ M' = pg_si M 207 0 0) (Q1 := fun v M' => v = nI (sp_cl G.L (sp_laws G.L G.s)) ∧ M' = pg_si M 207 0 0) hR (rm_lawsOf (b := 0) (by omega) hR hg0.s hg0.l hk.l hk.s.1) ?_ ?_)
  · rintro x1 M1 ⟨rfl, rfl⟩; exact pg_Ev.mono (by omega) (rm_clashesIn (d := 0) hk.c.2.2.2 this hR hg0.l hk.l)
  · rintro x1 M1 ⟨rfl, rfl⟩ x2 M2 ⟨rfl, rfl⟩; exact ⟨_, rfl, rfl, hg0, rm_X.th⟩
theorem rm_mend {w : Int32} (hR : pg_isX11 Λ) (hg : rm_G M G) (hk : sp_okG G h) : pg_Ev S Λ YX11_mend (d + 4) [.ref 207, .int w] M (fun r M' => ∃ v, r = some (.int v) ∧ (v = sp_qmend G w ∧ rm_G M' G ∧ pg_fr rm_X M M')) := by
  have hg0 := hg.th
  have hlw := sp_laws_lt (s := G.s) hk.l
  have h6 := hk.l.1
  have w1 : decide (¬ w < 0 ∧ ¬ (1 : Int32) < w) = (sp_ix 2 w).isSome := sp_ix_win (n := 1) (by decide) rfl
  have hp : 2 ^ G.L 4 0 ≤ 2 ^ 6 := Nat.pow_le_pow_right (by decide) h6
  refine oX11_mend (sX11_mend_0 (Q0 := fun v M' => v = b2i (decide (¬ w < 0 ∧ ¬ (1 : Int32) < w)) ∧ M' = pg_si M 207 0 0) (Q1 := fun v M' => v = nI (sp_laws G.L G.s) ∧ M' = pg_si M 207 0 0) hR rm_within ?_ ?_ ?_)
  · rintro x1 M1 ⟨rfl, rfl⟩ c; exact rm_lawsOf (b := 0) (by omega) hR hg0.s hg0.l hk.l hk.s.1
  · rintro x1 M1 ⟨rfl, rfl⟩ c x2 M2 ⟨rfl, rfl⟩
    have c' : (sp_ix 2 w).isSome = true := by rw [← w1]; exact ts_nf (fun q => c (b2i_0.mpr q))
    obtain ⟨j, hj⟩ := Option.isSome_iff_exists.mp c'
    obtain ⟨hj2, rfl⟩ := (sp_ix_some (by decide)).mp hj
    generalize hlaws : sp_laws G.L G.s = laws at *
    have hsh : (1 : Int32) <<< (nI (G.L 4 0) &&& 31) = nI (2 ^ G.L 4 0) := nb_pow (by omega)
    have hpos : 0 < 2 ^ G.L 4 0 := Nat.pow_pos (by decide)
    have bd : ∀ n b, sp_mnd G.L laws n = some b → b < n := fun n b q => (sp_mnd_lt n b q).1
    refine pg_loop (fun i (v : Int32) => pg_At S Λ YX11_mend (d + 4) 27 [(0, .ref 207), (1, .int (nI j)), (2, .int (nI laws)), (3, .int v), (4, .int (nI i))] [] (pg_si M 207 0 0) _) (fun i v => v = sp_oI (sp_mnd G.L laws i)) (2 ^ G.L 4 0) ?_ ?_ 0 _ (Nat.zero_le _) rfl
    · rintro v rfl
      have c9 : nI (2 ^ G.L 4 0) ≤ nI (2 ^ G.L 4 0) := nI_le (Nat.le_refl _) (by omega)
      obtain ⟨b, hb⟩ : ∃ b, sp_mnd G.L laws (2 ^ G.L 4 0) = some b := by
        have hlp : laws < 2 ^ G.L 4 0 := by rw [← hlaws]; exact sp_mk_lt _ _
        have hmay : sp_mmay G.L laws laws = true := by
          unfold sp_mmay
          rw [Nat.and_self, Nat.xor_self]
          have : sp_cl G.L 0 = 0 := by
            unfold sp_cl
            have : (fun a => fb_ct (fun e => decide (G.L 6 (6 * a + e) = 1) && ((0 : Nat).testBit a && (0 : Nat).testBit e)) a) = fun _ => 0 := by
              funext a; rw [fb_ct_zero]; intro k _; simp
            rw [this, fb_sm_const]; simp
          simp [this]
        have : ∀ n, laws < n → ∃ b, sp_mnd G.L laws n = some b := by
          intro n
          induction n with
          | zero => intro q; omega
          | succ n ih =>
            intro q
            simp only [sp_mnd]
            by_cases q2 : laws < n
            · obtain ⟨b, hb⟩ := ih q2
              split
              · exact ⟨_, rfl⟩
              · exact ⟨b, hb⟩
            · have : laws = n := by omega
              subst this
              split
              · exact ⟨_, rfl⟩
              · rename_i hq
                cases hm : sp_mnd G.L laws laws with
                | none => exact absurd ⟨hmay, fun b q => by rw [hm] at q; cases q⟩ hq
                | some b => exact ⟨b, rfl⟩
        exact this _ hlp
      have hb6 := bd _ b hb
      refine sX11_mend_27 (Q0 := fun v M' => v = nI (G.L 4 0) ∧ M' = pg_si M 207 0 0) (Q1 := fun v M' => v = nI (sp_worth G.L b) ∧ M' = pg_si M 207 0 0) (Q2 := fun _ _ => True) hR (rm_cloths hR hg0.l) ?_ ?_ ?_ ?_ ?_ ?_ ?_
      · rintro x1 M1 ⟨rfl, rfl⟩ _ n0
        have hj1 : j = 1 := by
          rcases Nat.eq_zero_or_pos j with q | q
          · subst q; exact absurd rfl n0
          · omega
        subst hj1
        exact ⟨_, rfl, by unfold sp_qmend; rw [hlaws]; rfl, hg0, rm_X.th⟩
      · rintro x1 M1 ⟨rfl, rfl⟩ _ n0
        rw [hb]
        exact pg_Ev.mono (by omega) (rm_worthOf (d := 0) (by omega) hR hg0.l hk.l)
      · rintro x1 M1 ⟨rfl, rfl⟩ _ n0 x2 M2 ⟨rfl, rfl⟩
        exact ⟨_, rfl, by unfold sp_qmend; rw [hlaws, n0, hb]; rfl, hg0, rm_X.th⟩
      all_goals
        rintro x1 M1 ⟨rfl, rfl⟩ c
        rw [hsh] at c; exact absurd c9 c
    · rintro i v hi rfl ih
      have c9 : ¬ nI (2 ^ G.L 4 0) ≤ nI i := nI_ge hi (by omega)
      have hand : (nI i &&& (nI laws ^^^ -1)) = 0 ↔ i ^^^ (i &&& laws) = 0 := by
        rw [nb_andn, ← nI_0, nI_eq (Nat.xor_lt_two_pow (n := 31) (by omega) (Nat.lt_of_le_of_lt Nat.and_le_left (by omega))) (by omega)]
      have hcl : sp_cl G.L (laws ^^^ (laws &&& i)) < 2 ^ 31 := by have := sp_cl_le hk.l (laws ^^^ (laws &&& i)); omega
      have hsub : laws ^^^ (laws &&& i) < 64 := Nat.xor_lt_two_pow (n := 6) (by omega) (Nat.lt_of_le_of_lt Nat.and_le_left (by omega))
      have t0 : sp_mmay G.L laws i = false → pg_At S Λ YX11_mend (d + 4) 65 [(0, .ref 207), (1, .int (nI j)), (2, .int (nI laws)), (3, .int (sp_oI (sp_mnd G.L laws i))), (4, .int (nI i))] [.int 0] (pg_si M 207 0 0) (fun r M' => ∃ v, r = some (.int v) ∧ (v = sp_qmend G (nI j) ∧ rm_G M' G ∧ pg_fr rm_X M M')) := fun hf => by
        refine sX11_mend_65 (Q0 := fun _ _ => True) (Q1 := fun _ _ => True) hR (fun _ => ?_) (fun c => absurd rfl c) (fun c => absurd rfl c) (fun c => absurd rfl c) (fun c => absurd rfl c) (fun c => absurd rfl c)
        rw [nI_1]
        refine ih _ ?_
        simp [sp_mnd, hf]
      have t1 : sp_mmay G.L laws i = true → pg_At S Λ YX11_mend (d + 4) 65 [(0, .ref 207), (1, .int (nI j)), (2, .int (nI laws)), (3, .int (sp_oI (sp_mnd G.L laws i))), (4, .int (nI i))] [.int 1] (pg_si M 207 0 0) (fun r M' => ∃ v, r = some (.int v) ∧ (v = sp_qmend G (nI j) ∧ rm_G M' G ∧ pg_fr rm_X M M')) := fun hf => by
        have n1 : ¬ (1 : Int32) = 0 := by decide
        cases hb : sp_mnd G.L laws i with
        | none =>
          refine sX11_mend_65 (Q0 := fun _ _ => True) (Q1 := fun _ _ => True) hR (fun c => absurd c n1) (fun _ _ => ?_) (fun _ c => absurd (show sp_oI none < 0 by decide) c) (fun _ c => absurd (show sp_oI none < 0 by decide) c) (fun _ c => absurd (show sp_oI none < 0 by decide) c) (fun _ c => absurd (show sp_oI none < 0 by decide) c)
          rw [nI_1]
          refine ih _ ?_
          simp [sp_mnd, hf, hb, sp_oI]
        | some b =>
          have hb6 := bd _ b hb
          have wb := sp_worth_le hk.l b
          have wi := sp_worth_le hk.l i
          refine sX11_mend_65 (Q0 := fun v M' => v = nI (sp_worth G.L i) ∧ M' = pg_si M 207 0 0) (Q1 := fun v M' => v = nI (sp_worth G.L b) ∧ M' = pg_si M 207 0 0) hR (fun c => absurd c n1) (fun _ c => absurd c (nI_pos (by omega))) (fun _ _ => ?_) ?_ ?_ ?_
          · exact pg_Ev.mono (by omega) (rm_worthOf (d := 0) (by omega) hR hg0.l hk.l)
          · rintro _ _ x1 M1 ⟨rfl, rfl⟩; exact pg_Ev.mono (by omega) (rm_worthOf (d := 0) (by omega) hR hg0.l hk.l)
          · rintro _ _ x1 M1 ⟨rfl, rfl⟩ x2 M2 ⟨rfl, rfl⟩ c
            rw [nI_leI (by omega) (by omega)] at c
            rw [nI_1]
            refine ih _ ?_
            simp only [sp_mnd]
            rw [if_neg (fun q => by have := q.2 b hb; omega), hb]
          · rintro _ _ x1 M1 ⟨rfl, rfl⟩ x2 M2 ⟨rfl, rfl⟩ c
            rw [nI_leI (by omega) (by omega)] at c
            rw [nI_1]
            refine ih _ ?_
            simp only [sp_mnd]
            rw [if_pos ⟨hf, fun b' q => by rw [hb] at q; cases q; omega⟩]; rfl
      refine sX11_mend_27 (Q0 := fun v M' => v = nI (G.L 4 0) ∧ M' = pg_si M 207 0 0) (Q1 := fun _ _ => True) (Q2 := fun v M' => v = nI (sp_cl G.L (laws ^^^ (laws &&& i))) ∧ M' = pg_si M 207 0 0) hR (rm_cloths hR hg0.l) ?_ ?_ ?_ ?_ ?_ ?_ ?_
      · rintro x1 M1 ⟨rfl, rfl⟩ c; rw [hsh] at c; exact absurd c c9
      · rintro x1 M1 ⟨rfl, rfl⟩ c; rw [hsh] at c; exact absurd c c9
      · rintro x1 M1 ⟨rfl, rfl⟩ c; rw [hsh] at c; exact absurd c c9
      · rintro x1 M1 ⟨rfl, rfl⟩ _ c
        rw [hand] at c
        exact t0 (by simp [sp_mmay, c])
      · rintro x1 M1 ⟨rfl, rfl⟩ _ c
        rw [nb_andn]
        exact pg_Ev.mono (by omega) (rm_clashesIn (d := 0) hk.c.2.2.2 hsub hR hg0.l hk.l)
      · rintro x1 M1 ⟨rfl, rfl⟩ _ c x3 M3 ⟨rfl, rfl⟩ c2
        rw [← nI_0, nI_eq hcl (by omega)] at c2
        exact t0 (by simp [sp_mmay, c2])
      · rintro x1 M1 ⟨rfl, rfl⟩ _ c x3 M3 ⟨rfl, rfl⟩ c2
        rw [← nI_0, nI_eq hcl (by omega)] at c2
        rw [hand] at c
        exact t1 (by simp [sp_mmay, c, c2])
  · rintro x1 M1 ⟨rfl, rfl⟩ c
    rw [w1, b2i_0] at c
    have e : sp_ix 2 w = none := by simpa using c
    rw [sp_ix_none (by decide)] at e
    refine ⟨_, rfl, ?_, hg0, rm_X.th⟩
    unfold sp_qmend
    rw [if_neg (show ¬ w = 0 from e 0 (by decide)), if_neg (show ¬ w = 1 from e 1 (by decide))]
end PGR
