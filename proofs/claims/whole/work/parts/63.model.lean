/-! the reference: counts, feels, marks, judges -/
def sp_jstep (L : sp_N) (E : sp_E) (k : Nat) (e : Nat × Nat × Nat) (q : Option Nat × Option Nat × sp_N) : Option Nat × Option Nat × sp_N :=
  if e.1 = 4 then (q.1, (if 0 < (sp_hour L E q.2.2 0).2 ∧ q.2.1 = none then some k else q.2.1), (sp_hour L E q.2.2 0).1)
  else ((if sp_does L q.2.2 e.1 e.2.1 e.2.2 = none ∧ q.1 = none then some k else q.1), q.2.1, (sp_does L q.2.2 e.1 e.2.1 e.2.2).getD q.2.2)
def sp_jrun (L : sp_N) (E : sp_E) (pl : List (Nat × Nat × Nat)) : Nat → Option Nat × Option Nat × sp_N
  | 0 => (none, none, sp_start L)
  | k + 1 => sp_jstep L E k (pl.getD k (0, 0, 0)) (sp_jrun L E pl k)
def sp_qjudged (G : sp_G) (w : Int32) : Int32 := match sp_ix 3 w with
  | none => -2
  | some j => if j = 0 then sp_oI (sp_jrun G.L G.E G.pl G.pl.length).1 else if j = 1 then sp_oI (sp_jrun G.L G.E G.pl G.pl.length).2.1 else nI (sp_worth G.L (sp_laws G.L (sp_jrun G.L G.E G.pl G.pl.length).2.2))
theorem sp_okS.does {L s t : sp_N} {E : sp_E} {h w a b : Nat} (hk : sp_okL L E) (ho : sp_okS L s h) (ht : sp_does L s w a b = some t) : sp_okS L t h := by
  unfold sp_does at ht
  split at ht
  · exact sp_okS.hang hk ho ht
  · split at ht
    · exact sp_okS.take hk ho ht
    · split at ht
      · cases hq : sp_wash L s (nI a) with
        | none => rw [hq] at ht; cases ht
        | some q => rw [hq] at ht; cases ht; exact sp_okS.wash (k := q.1) hk ho (by rw [hq])
      · exact sp_okS.buy ho ht
theorem sp_jrun_ok {L : sp_N} {E : sp_E} {pl : List (Nat × Nat × Nat)} (hk : sp_okL L E) : ∀ n, sp_okS L (sp_jrun L E pl n).2.2 n ∧ (∀ k, (sp_jrun L E pl n).1 = some k → k < n) ∧ ∀ k, (sp_jrun L E pl n).2.1 = some k → k < n := by
  intro n
  induction n with
  | zero => exact ⟨sp_okS.start hk, by simp [sp_jrun], by simp [sp_jrun]⟩
  | succ n ih =>
    obtain ⟨i1, i2, i3⟩ := ih
    simp only [sp_jrun]
    generalize sp_jrun L E pl n = q at i1 i2 i3
    unfold sp_jstep
    split
    · refine ⟨i1.pass, fun k hk1 => ?_, fun k hk1 => ?_⟩
      · have := i2 k hk1; omega
      · simp only at hk1
        split at hk1
        · cases hk1; omega
        · have := i3 k hk1; omega
    · refine ⟨?_, fun k hk1 => ?_, fun k hk1 => ?_⟩
      · simp only
        cases hd : sp_does L q.2.2 (pl.getD n (0, 0, 0)).1 (pl.getD n (0, 0, 0)).2.1 (pl.getD n (0, 0, 0)).2.2 with
        | none => exact i1.more (by omega)
        | some t => exact (sp_okS.does hk i1 hd).more (by omega)
      · simp only at hk1
        split at hk1
        · cases hk1; omega
        · have := i2 k hk1; omega
      · have := i3 k hk1; omega
theorem sp_hits_le {L s : sp_N} {E : sp_E} {wind : Nat} : ∀ n, (sp_hits L E s wind n).2 ≤ n := by
  intro n
  induction n with
  | zero => simp [sp_hits]
  | succ n ih =>
    simp only [sp_hits]
    split
    · omega
    · simp only; split <;> omega
theorem sp_oI_pos {o : Option Nat} (h : ∀ k, o = some k → k < 2 ^ 31) : (0 : Int32) ≤ sp_oI o ↔ o ≠ none := by
  cases o with
  | none => simp [sp_oI]
  | some k => simp [sp_oI]; exact nI_pos' (h k rfl)
theorem sp_oI_m1 {o : Option Nat} (h : ∀ k, o = some k → k < 2 ^ 31) : sp_oI o = -1 ↔ o = none := by
  cases o with
  | none => simp [sp_oI]
  | some k =>
    simp only [sp_oI, reduceCtorEq, iff_false]
    intro e
    have := nI_pos (h k rfl)
    rw [e] at this
    exact this (by decide)
theorem rm_F.cp {M : pg_M} {f t : Nat} {fl : List (Nat × Nat × Nat)} (h : rm_F M f fl) : rm_F (rm_cp M f t 54) t fl := by
  obtain ⟨f1, f2, f3⟩ := h
  refine ⟨by rw [rm_cp_in (by omega)]; exact f1, f2, fun j e hj => ?_⟩
  have : j < fl.length := (List.getElem?_eq_some_iff.mp hj).1
  rw [show t + 29 + 3 * j = t + (29 + 3 * j) by omega, show t + 30 + 3 * j = t + (30 + 3 * j) by omega, show t + 31 + 3 * j = t + (31 + 3 * j) by omega, rm_cp_in (by omega), rm_cp_in (by omega), rm_cp_in (by omega), ← Nat.add_assoc, ← Nat.add_assoc, ← Nat.add_assoc]
  exact f3 j e hj
theorem rm_F.cpo {M : pg_M} {f t n b : Nat} {fl : List (Nat × Nat × Nat)} (h : b + 54 ≤ t ∨ t + n ≤ b + 28) (hf : rm_F M b fl) : rm_F (rm_cp M f t n) b fl := hf.off (fun j h1 h2 => rm_cp_out (by omega))
section PGR
variable {S : pg_S} {Λ : pg_L} {d h : Nat} {M : pg_M} {G : sp_G}
theorem rm_count {w : Int32} (hR : pg_isX11 Λ) (hh : h < 2 ^ 30) (hg : rm_G M G) (hk : sp_okG G h) : pg_Ev S Λ YX11_count (d + 4) [.ref 207, .int w] M (fun r M' => ∃ v, r = some (.int v) ∧ (v = sp_qcount G w ∧ rm_G M' G ∧ pg_fr rm_X M M')) := by
  have hg0 := hg.th
  have hl := hk.l
  have hl6 := sp_laws_lt (s := G.s) hl
  have hw41 := hk.s.1.2.1
  have hnow : (pg_si M 207 0 0).1 221 0 = nI (G.s 4 1) := hg0.s.1
  refine oX11_count (sX11_count_0 (Q0 := fun v M' => v = nI (G.L 4 0) ∧ M' = pg_si M 207 0 0) (Q1 := fun v M' => v = sp_left G.L G.s ∧ M' = pg_si M 207 0 0) (Q2 := fun v M' => v = nI (sp_wind G.L (G.s 4 1)) ∧ M' = pg_si M 207 0 0) (Q3 := fun v M' => v = nI (sp_laws G.L G.s) ∧ M' = pg_si M 207 0 0) (Q4 := fun v M' => v = nI (sp_worth G.L (sp_laws G.L G.s)) ∧ M' = pg_si M 207 0 0) (Q5 := fun v M' => v = nI (sp_turns G.L G.s) ∧ M' = pg_si M 207 0 0) hR ?_ ?_ ?_ ?_ ?_ ?_ ?_ ?_ ?_ ?_ ?_ ?_ ?_ ?_ ?_ ?_ ?_ ?_ ?_ ?_)
  · rintro rfl; exact rm_cloths hR hg0.l
  · rintro rfl x1 M1 ⟨rfl, rfl⟩; exact ⟨_, rfl, rfl, hg0, rm_X.th⟩
  · rintro _ rfl; exact ⟨_, rfl, hg0.s.2.1, hg0, rm_X.th⟩
  · rintro _ _ rfl; exact ⟨_, rfl, hg0.l.2.2.2.1, hg0, rm_X.th⟩
  · rintro _ _ _ rfl; exact pg_Ev.mono (by omega) (rm_roomLeft (d := 0) (b := 0) (by omega) hR hg0.s hg0.l hl hk.s.1)
  · rintro _ _ _ rfl x1 M1 ⟨rfl, rfl⟩; exact ⟨_, rfl, rfl, hg0, rm_X.th⟩
  · rintro _ _ _ _ rfl; exact ⟨_, rfl, hnow, hg0, rm_X.th⟩
  · rintro _ _ _ _ _ rfl; rw [tn_0, hnow]; exact rm_windOf false (by omega) hR hg0.l hl
  · rintro _ _ _ _ _ rfl x1 M1 ⟨rfl, rfl⟩; exact ⟨_, rfl, rfl, hg0, rm_X.th⟩
  · rintro _ _ _ _ _ _ rfl; exact rm_lawsOf (b := 0) (by omega) hR hg0.s hg0.l hl hk.s.1
  · rintro _ _ _ _ _ _ rfl x1 M1 ⟨rfl, rfl⟩; exact pg_Ev.mono (by omega) (rm_worthOf (d := 0) (by omega) hR hg0.l hl)
  · rintro _ _ _ _ _ _ rfl x1 M1 ⟨rfl, rfl⟩ x2 M2 ⟨rfl, rfl⟩; exact ⟨_, rfl, rfl, hg0, rm_X.th⟩
  · rintro _ _ _ _ _ _ _ rfl; exact pg_Ev.mono (by omega) (rm_turnedSet (d := 0) hR hg0.s hg0.l hl hk.s.1)
  · rintro _ _ _ _ _ _ _ rfl x1 M1 ⟨rfl, rfl⟩; exact ⟨_, rfl, rfl, hg0, rm_X.th⟩
  · rintro _ _ _ _ _ _ _ _ rfl; exact ⟨_, rfl, hg0.l.2.2.2.2.2.1, hg0, rm_X.th⟩
  · rintro _ _ _ _ _ _ _ _ _ rfl; exact ⟨_, rfl, hg0.p.1, hg0, rm_X.th⟩
  · rintro _ _ _ _ _ _ _ _ _ _ rfl; exact ⟨_, rfl, hg0.f.1, hg0, rm_X.th⟩
  · rintro _ _ _ _ _ _ _ _ _ _ _ rfl; exact ⟨_, rfl, hg0.u.1, hg0, rm_X.th⟩
  · rintro _ _ _ _ _ _ _ _ _ _ _ _ rfl; exact ⟨_, rfl, hg0.t.1, hg0, rm_X.th⟩
  · rintro n0 n1 n2 n3 n4 n5 n6 n7 n8 n9 n10 n11 n12
    refine ⟨_, rfl, ?_, hg0, rm_X.th⟩
    unfold sp_qcount
    simp only [n0, n1, n2, n3, n4, n5, n6, n7, n8, n9, n10, n11, n12, if_false]
theorem rm_feel {x y z : Int32} (hR : pg_isX11 Λ) (hg : rm_G M G) (hk : sp_okG G h) : pg_Ev S Λ YX11_feel (d + 2) [.ref 207, .int x, .int y, .int z] M (fun r M' => ∃ v, r = some (.int v) ∧ (v = (sp_qfeel G x y z).1 ∧ rm_G M' (sp_qfeel G x y z).2 ∧ pg_fr rm_X M M')) := by
  have h6 := hk.l.1
  have hf8 := hk.f.1
  have hg0 := hg.th
  have w12 : decide (¬ y < 0 ∧ ¬ (12 : Int32) < y) = (sp_ix 13 y).isSome := sp_ix_win (n := 12) (by decide) rfl
  have w9 : decide (¬ z < 0 ∧ ¬ (9 : Int32) < z) = (sp_ix 10 z).isSome := sp_ix_win (n := 9) (by decide) rfl
  have hm : (pg_si M 207 0 0).1 221 28 = nI G.fl.length := hg0.f.1
  have e28 : (28 : Int32).toNatClampNeg = 28 := rfl
  have no : sp_qfeel G x y z = (0, G) → ∃ v, (some (Value.int 0) = some (Value.int v)) ∧ (v = (sp_qfeel G x y z).1 ∧ rm_G (pg_si M 207 0 0) (sp_qfeel G x y z).2 ∧ pg_fr rm_X M (pg_si M 207 0 0)) := fun q => by
    rw [q]; exact ⟨_, rfl, rfl, hg0, rm_X.th⟩
  have i1 : (29 : Int32) + 3 * nI G.fl.length = nI (29 + 3 * G.fl.length) := by rw [show (3 : Int32) = nI 3 from rfl, pk_mul, show (29 : Int32) = nI 29 from rfl, nI_add]
  have i2 : nI (29 + 3 * G.fl.length) + 1 = nI (30 + 3 * G.fl.length) := by rw [nI_1]; congr 1; omega
  have i3 : nI (29 + 3 * G.fl.length) + 2 = nI (31 + 3 * G.fl.length) := by rw [show (2 : Int32) = nI 2 from rfl, nI_add]; congr 1; omega
  refine oX11_feel (sX11_feel_0 (Q0 := fun v M' => v = b2i (sp_ix (G.L 4 0) x).isSome ∧ M' = pg_si M 207 0 0) (Q1 := fun v M' => v = b2i (decide (¬ y < 0 ∧ ¬ (12 : Int32) < y)) ∧ M' = pg_si M 207 0 0) (Q2 := fun v M' => v = b2i (decide (¬ z < 0 ∧ ¬ (9 : Int32) < z)) ∧ M' = pg_si M 207 0 0) hR (rm_isCloth hR hg0.l hk.l) ?_ ?_ ?_ ?_ ?_ ?_ ?_ ?_ ?_ ?_)
  · rintro x1 M1 ⟨rfl, rfl⟩ c
    rw [b2i_0] at c
    have e : sp_ix (G.L 4 0) x = none := by simpa using c
    exact no (by unfold sp_qfeel; rw [e])
  · rintro x1 M1 ⟨rfl, rfl⟩ c; exact rm_within
  · rintro x1 M1 ⟨rfl, rfl⟩ c x2 M2 ⟨rfl, rfl⟩ c2
    rw [w12, b2i_0] at c2
    have e : sp_ix 13 y = none := by simpa using c2
    exact no (by unfold sp_qfeel; rw [e]; cases sp_ix (G.L 4 0) x <;> rfl)
  · rintro x1 M1 ⟨rfl, rfl⟩ c x2 M2 ⟨rfl, rfl⟩ c2; exact rm_within
  · rintro x1 M1 ⟨rfl, rfl⟩ c x2 M2 ⟨rfl, rfl⟩ c2 x3 M3 ⟨rfl, rfl⟩ c3
    rw [w9, b2i_0] at c3
    have e : sp_ix 10 z = none := by simpa using c3
    exact no (by unfold sp_qfeel; rw [e]; cases sp_ix (G.L 4 0) x <;> cases sp_ix 13 y <;> rfl)
  all_goals
    rintro x1 M1 ⟨rfl, rfl⟩ c x2 M2 ⟨rfl, rfl⟩ c2 x3 M3 ⟨rfl, rfl⟩ c3 c4
    simp only [e28, hm] at c4 ⊢
    rw [show (8 : Int32) = nI 8 from rfl, nI_eq (by omega) (by omega)] at c4
    have c1' := Option.isSome_iff_exists.mp (ts_nf (fun q => c (b2i_0.mpr q)))
    have c2' : (sp_ix 13 y).isSome = true := by rw [← w12]; exact ts_nf (fun q => c2 (b2i_0.mpr q))
    have c3' : (sp_ix 10 z).isSome = true := by rw [← w9]; exact ts_nf (fun q => c3 (b2i_0.mpr q))
    obtain ⟨cc, hcc⟩ := c1'
    obtain ⟨kk, hkk⟩ := Option.isSome_iff_exists.mp c2'
    obtain ⟨ww, hww⟩ := Option.isSome_iff_exists.mp c3'
    obtain ⟨b1, rfl⟩ := (sp_ix_some (by omega)).mp hcc
    obtain ⟨b2, rfl⟩ := (sp_ix_some (by decide)).mp hkk
    obtain ⟨b3, rfl⟩ := (sp_ix_some (by decide)).mp hww
  · rw [i1]; exact vp_in_nI (by omega) (by decide)
  · rw [i1, i2]; exact vp_in_nI (by omega) (by decide)
  · rintro N1 _; rw [i1, i3]; exact vp_in_nI (by omega) (by decide)
  · rintro N1 hN1 N2 hN2
    rw [i1, i2, nI_clamp (by omega), nI_clamp (by omega)] at hN1
    rw [i1, i3, nI_clamp (by omega)] at hN2
    have q28 : (pg_si N1 221 (31 + 3 * G.fl.length) (nI ww)).1 221 28 = nI G.fl.length := by
      rw [pg_si_at, pk_un (by omega), hN1, pg_si_at, pk_un (by omega), pg_si_at, pk_un (by omega), hm]
    rw [q28, nI_1] at hN2
    have e : sp_qfeel G (nI cc) (nI kk) (nI ww) = (1, G.felt (G.fl ++ [(cc, kk, ww)])) := by unfold sp_qfeel; rw [hcc, hkk, hww]; simp only; rw [if_neg c4]
    have hof : ∀ j, (j < 28 ∨ 53 ≤ j) → N2.1 221 j = (pg_si M 207 0 0).1 221 j := fun j hj => by
      rw [hN2, pg_si_at, pk_un (by omega), pg_si_at, pk_un (by omega), hN1, pg_si_at, pk_un (by omega), pg_si_at, pk_un (by omega)]
    have hfr : pg_fr [221] (pg_si M 207 0 0) N2 := by
      rw [hN2, hN1]; exact (((pg_fr.si (by simp)).trans (pg_fr.si (by simp))).trans (pg_fr.si (by simp))).trans (pg_fr.si (by simp))
    rw [e]
    refine ⟨_, rfl, rfl, ?_, rm_X.th.trans (rm_X.of hfr (fun x hx => by simp at hx; omega))⟩
    obtain ⟨gl, gn, gs, gf, gu, gm, gp, gt, gw⟩ := hg0
    refine ⟨?_, ⟨by rw [hfr.1 207 (by simp)]; exact gn.1, fun c hc => by rw [hfr.2.1 216 (by simp)]; exact gn.2 c hc⟩, gs.off (fun j a b => hof j (by omega)), ⟨?_, ?_, fun j q hj => ?_⟩, gu.fr (by rw [hfr.1 207 (by simp)]) (fun j a b => hof j (by omega)), fun m hm1 => ⟨by rw [hfr.1 222 (by simp)]; exact (gm m hm1).1, fun t f q => ⟨((gm m hm1).2 t f q).1.off (fun j a b => hof j (by omega)), ((gm m hm1).2 t f q).2.off (fun j a b => hof j (by omega))⟩⟩, ?_, ⟨by rw [hfr.1 207 (by simp)]; exact gt.1, fun j c q => by rw [hfr.1 208 (by simp)]; exact gt.2 j c q⟩, fun k w q => by rw [hfr.2.1 212 (by simp)]; exact gw k w q⟩
    · show rm_L N2 G.L G.E
      exact gl.keep hfr (by simp) (by simp) (by simp)
    · rw [hN2, pg_si_at, pk_us]; simp [sp_G.felt_fl]
    · simp [sp_G.felt_fl]; omega
    · rw [sp_G.felt_fl] at hj
      rcases Nat.lt_trichotomy j G.fl.length with a | a | a
      · rw [List.getElem?_append_left a] at hj
        have := gf.2.2 j q hj
        rw [hN2]
        rw [pg_si_at, pk_un (by omega), pk_un (by omega), pk_un (by omega), pg_si_at, pk_un (by omega), pk_un (by omega), pk_un (by omega), hN1, pg_si_at, pk_un (by omega), pk_un (by omega), pk_un (by omega), pg_si_at, pk_un (by omega), pk_un (by omega), pk_un (by omega)]
        exact this
      · subst a
        rw [List.getElem?_append_right (Nat.le_refl _), Nat.sub_self] at hj
        cases hj
        refine ⟨?_, ?_, ?_⟩
        · rw [hN2, pg_si_at, pk_un (by omega), pg_si_at, pk_un (by omega), hN1, pg_si_at, pk_un (by omega), pg_si_at, show 0 + 29 + 3 * G.fl.length = 29 + 3 * G.fl.length by omega, pk_us]
        · rw [hN2, pg_si_at, pk_un (by omega), pg_si_at, pk_un (by omega), hN1, pg_si_at, show 0 + 30 + 3 * G.fl.length = 30 + 3 * G.fl.length by omega, pk_us]
        · rw [hN2, pg_si_at, pk_un (by omega), pg_si_at, show 0 + 31 + 3 * G.fl.length = 31 + 3 * G.fl.length by omega, pk_us]
      · rw [List.getElem?_eq_none (by simp; omega)] at hj; cases hj
    · show rm_P N2 G.pl
      unfold rm_P at *
      rw [hfr.1 218 (by simp)]
      exact gp
  · exact no (by unfold sp_qfeel; rw [hcc, hkk, hww]; simp only; rw [if_pos c4])
theorem rm_judged {w : Int32} (hR : pg_isX11 Λ) (hg : rm_G M G) (hk : sp_okG G h) : pg_Ev S Λ YX11_judged (d + 5) [.ref 207, .int w] M (fun r M' => ∃ v, r = some (.int v) ∧ (v = sp_qjudged G w ∧ rm_G M' G ∧ pg_fr rm_X M M')) := by
  have hg0 := hg.th
  have hl := hk.l
  have hp30 := hk.p.1
  have w2 : decide (¬ w < 0 ∧ ¬ (2 : Int32) < w) = (sp_ix 3 w).isSome := sp_ix_win (n := 2) (by decide) rfl
  refine oX11_judged (sX11_judged_0 (Q0 := fun v M' => v = b2i (decide (¬ w < 0 ∧ ¬ (2 : Int32) < w)) ∧ M' = pg_si M 207 0 0) (Q1 := fun M' => rm_S M' 1134 (sp_start G.L) ∧ pg_fr [221] (pg_si M 207 0 0) M' ∧ ∀ j, (j < 1134 ∨ 1134 + 28 ≤ j) → M'.1 221 j = (pg_si M 207 0 0).1 221 j) hR rm_within ?_ ?_ ?_)
  · rintro x1 M1 ⟨rfl, rfl⟩ c; exact rm_starts (b := 1134) (by omega) hR hg0.l hl
  · rintro x1 M1 ⟨rfl, rfl⟩ c M2 ⟨s2, f2, o2⟩
    have c' : (sp_ix 3 w).isSome = true := by rw [← w2]; exact ts_nf (fun q => c (b2i_0.mpr q))
    obtain ⟨j, hj⟩ := Option.isSome_iff_exists.mp c'
    obtain ⟨hj3, rfl⟩ := (sp_ix_some (by decide)).mp hj
    have hsame : rm_same (pg_si M 207 0 0) M2 := rm_same.st (f2.mono (fun x hx => by simp at hx ⊢; omega)) (fun i hi => o2 i (by omega))
    refine pg_loop (fun i (q : Int32 × Int32 × pg_M) => pg_At S Λ YX11_judged (d + 5) 31 [(0, .ref 207), (1, .int (nI j)), (2, .int q.1), (3, .int q.2.1), (4, .int (nI i))] [] q.2.2 _) (fun i q => q.1 = sp_oI (sp_jrun G.L G.E G.pl i).1 ∧ q.2.1 = sp_oI (sp_jrun G.L G.E G.pl i).2.1 ∧ rm_S q.2.2 1134 (sp_jrun G.L G.E G.pl i).2.2 ∧ rm_G q.2.2 G ∧ pg_fr rm_X M q.2.2) G.pl.length ?_ ?_ 0 (-1, -1, M2) (Nat.zero_le _) ⟨rfl, rfl, s2, hg0.same hsame, rm_X.th.trans (rm_X.of f2 (fun x hx => by simp at hx; omega))⟩
    · rintro ⟨v2, v3, m⟩ ⟨rfl, rfl, i3, i4, i5⟩
      have ok := sp_jrun_ok (pl := G.pl) hl G.pl.length
      have hm : m.1 218 (0 : Int32).toNatClampNeg = nI G.pl.length := i4.p.1
      have c9 : nI G.pl.length ≤ nI G.pl.length := nI_le (Nat.le_refl _) (by omega)
      have hq : sp_qjudged G (nI j) = if j = 0 then sp_oI (sp_jrun G.L G.E G.pl G.pl.length).1 else if j = 1 then sp_oI (sp_jrun G.L G.E G.pl G.pl.length).2.1 else nI (sp_worth G.L (sp_laws G.L (sp_jrun G.L G.E G.pl G.pl.length).2.2)) := by unfold sp_qjudged; rw [hj]
      have j0 : nI j = 0 ↔ j = 0 := by rw [← nI_0, nI_eq (by omega) (by omega)]
      have j1 : nI j = 1 ↔ j = 1 := by rw [show (1 : Int32) = nI 1 from rfl, nI_eq (by omega) (by omega)]
      refine sX11_judged_31 (Q0 := fun v M' => v = nI (sp_laws G.L (sp_jrun G.L G.E G.pl G.pl.length).2.2) ∧ M' = m) (Q1 := fun v M' => v = nI (sp_worth G.L (sp_laws G.L (sp_jrun G.L G.E G.pl G.pl.length).2.2)) ∧ M' = m) (Q2 := fun _ _ => True) (Q3 := fun _ _ => True) hR ?_ ?_ ?_ ?_ ?_ ?_ ?_ ?_ ?_ ?_ ?_ ?_ ?_ ?_ ?_ ?_ <;> simp only [hm]
      · rintro _ _ _; exact pg_Ev.mono (by omega) (rm_lawsOf (d := 0) (b := 1134) (by omega) hR i3 i4.l hl ok.1)
      · rintro _ _ _ x1 M1 ⟨rfl, rfl⟩
        have := sp_laws_lt (s := (sp_jrun G.L G.E G.pl G.pl.length).2.2) hl
        exact pg_Ev.mono (by omega) (rm_worthOf (d := 0) (by omega) hR i4.l hl)
      · rintro _ n0 n1 x1 M1 ⟨rfl, rfl⟩ x2 M2 ⟨rfl, rfl⟩
        rw [j0] at n0; rw [j1] at n1
        exact ⟨_, rfl, by rw [hq, if_neg n0, if_neg n1], i4, i5⟩
      · rintro _ n0 n1
        rw [j0] at n0; rw [j1] at n1
        exact ⟨_, rfl, by rw [hq, if_neg n0, if_pos n1], i4, i5⟩
      · rintro _ n0
        rw [j0] at n0
        exact ⟨_, rfl, by rw [hq, if_pos n0], i4, i5⟩
      all_goals exact fun c => absurd c9 c
    · rintro i ⟨v2, v3, m⟩ hi ⟨rfl, rfl, i3, i4, i5⟩ ih
      have ok := sp_jrun_ok (pl := G.pl) hl i
      simp only at i3 i4 i5 ⊢
      have hm : m.1 218 (0 : Int32).toNatClampNeg = nI G.pl.length := i4.p.1
      have c9 : ¬ nI G.pl.length ≤ nI i := nI_ge hi (by omega)
      have hget : G.pl[i]? = some (G.pl.getD i (0, 0, 0)) := by rw [List.getElem?_eq_getElem hi]; simp [hi]
      have hstep : sp_jrun G.L G.E G.pl (i + 1) = sp_jstep G.L G.E i (G.pl.getD i (0, 0, 0)) (sp_jrun G.L G.E G.pl i) := rfl
      generalize G.pl.getD i (0, 0, 0) = e at hget hstep
      obtain ⟨p1, p2, p3⟩ := i4.p.2 i e hget
      obtain ⟨o1, o2, o3, o4⟩ := hk.p.2 i e hget
      have x1 : (1 : Int32) + 3 * nI i = nI (1 + 3 * i) := by rw [show (3 : Int32) = nI 3 from rfl, pk_mul, show (1 : Int32) = nI 1 from rfl, nI_add]
      have x2 : (2 : Int32) + 3 * nI i = nI (2 + 3 * i) := by rw [show (3 : Int32) = nI 3 from rfl, pk_mul, show (2 : Int32) = nI 2 from rfl, nI_add]
      have x3 : (3 : Int32) + 3 * nI i = nI (3 + 3 * i) := by rw [show (3 : Int32) = nI 3 from rfl, pk_mul, nI_add]
      have v1 : m.1 218 (1 + 3 * nI i).toNatClampNeg = nI e.1 := by rw [x1, nI_clamp (by omega)]; exact p1
      have v2 : m.1 218 (2 + 3 * nI i).toNatClampNeg = nI e.2.1 := by rw [x2, nI_clamp (by omega)]; exact p2
      have v3 : m.1 218 (3 + 3 * nI i).toNatClampNeg = nI e.2.2 := by rw [x3, nI_clamp (by omega)]; exact p3
      have e4 : nI e.1 = 4 ↔ e.1 = 4 := by rw [show (4 : Int32) = nI 4 from rfl, nI_eq (by omega) (by omega)]
      have hw0 : ∀ k, (sp_jrun G.L G.E G.pl i).1 = some k → k < 2 ^ 31 := fun k q => by have := ok.2.1 k q; omega
      have hf0 : ∀ k, (sp_jrun G.L G.E G.pl i).2.1 = some k → k < 2 ^ 31 := fun k q => by have := ok.2.2 k q; omega
      refine sX11_judged_31 (Q0 := fun _ _ => True) (Q1 := fun _ _ => True) (Q2 := fun v M' => v = b2i (sp_does G.L (sp_jrun G.L G.E G.pl i).2.2 e.1 e.2.1 e.2.2).isSome ∧ rm_S M' 1134 ((sp_does G.L (sp_jrun G.L G.E G.pl i).2.2 e.1 e.2.1 e.2.2).getD (sp_jrun G.L G.E G.pl i).2.2) ∧ rm_fr 1134 m M') (Q3 := fun v M' => v = nI (sp_hour G.L G.E (sp_jrun G.L G.E G.pl i).2.2 0).2 ∧ rm_S M' 1134 (sp_hour G.L G.E (sp_jrun G.L G.E G.pl i).2.2 0).1 ∧ rm_fr 1134 m M') hR ?_ ?_ ?_ ?_ ?_ ?_ ?_ ?_ ?_ ?_ ?_ ?_ ?_ ?_ ?_ ?_ <;> simp only [hm, v1, v2, v3, e4]
      · exact fun c => absurd c c9
      · exact fun c => absurd c c9
      · exact fun c => absurd c c9
      · exact fun c => absurd c c9
      · exact fun c => absurd c c9
      · intro _; rw [x1]; exact vp_in_nI (by omega) (by decide)
      · intro _ _; rw [x2]; exact vp_in_nI (by omega) (by decide)
      · intro _ _; rw [x3]; exact vp_in_nI (by omega) (by decide)
      · intro _ c4
        exact rm_does (by omega) o2 o3 o4 hR i3 i4.l hl ok.1
      · rintro _ c4 y3 M3 ⟨rfl, s3, f3⟩ c5
        have c5' : (sp_does G.L (sp_jrun G.L G.E G.pl i).2.2 e.1 e.2.1 e.2.2).isSome = true := ts_nf (fun q => c5 (b2i_0.mpr q))
        have hs : sp_jrun G.L G.E G.pl (i + 1) = ((sp_jrun G.L G.E G.pl i).1, (sp_jrun G.L G.E G.pl i).2.1, (sp_does G.L (sp_jrun G.L G.E G.pl i).2.2 e.1 e.2.1 e.2.2).getD (sp_jrun G.L G.E G.pl i).2.2) := by
          rw [hstep]; unfold sp_jstep; rw [if_neg c4, if_neg (fun q => by rw [q.1] at c5'; cases c5')]
        rw [nI_1]
        exact ih (_, _, M3) ⟨by rw [hs] <;> rfl, by rw [hs] <;> rfl, by rw [hs]; exact s3, i4.same (rm_same.tr f3), i5.trans (rm_X.st f3)⟩
      · rintro _ c4 y3 M3 ⟨rfl, s3, f3⟩ c5 c6
        rw [sp_oI_pos hw0] at c6
        have hs : sp_jrun G.L G.E G.pl (i + 1) = ((sp_jrun G.L G.E G.pl i).1, (sp_jrun G.L G.E G.pl i).2.1, (sp_does G.L (sp_jrun G.L G.E G.pl i).2.2 e.1 e.2.1 e.2.2).getD (sp_jrun G.L G.E G.pl i).2.2) := by
          rw [hstep]; unfold sp_jstep; rw [if_neg c4, if_neg (fun q => c6 q.2)]
        rw [nI_1]
        exact ih (_, _, M3) ⟨by rw [hs] <;> rfl, by rw [hs] <;> rfl, by rw [hs]; exact s3, i4.same (rm_same.tr f3), i5.trans (rm_X.st f3)⟩
      · rintro _ c4 y3 M3 ⟨rfl, s3, f3⟩ c5 c6
        rw [sp_oI_pos hw0, Classical.not_not] at c6
        rw [b2i_0] at c5
        have c5' : sp_does G.L (sp_jrun G.L G.E G.pl i).2.2 e.1 e.2.1 e.2.2 = none := by simpa using c5
        have hs : sp_jrun G.L G.E G.pl (i + 1) = (some i, (sp_jrun G.L G.E G.pl i).2.1, (sp_does G.L (sp_jrun G.L G.E G.pl i).2.2 e.1 e.2.1 e.2.2).getD (sp_jrun G.L G.E G.pl i).2.2) := by
          rw [hstep]; unfold sp_jstep; rw [if_neg c4, if_pos ⟨c5', c6⟩]
        rw [nI_1]
        exact ih (_, _, M3) ⟨by rw [hs] <;> rfl, by rw [hs] <;> rfl, by rw [hs]; exact s3, i4.same (rm_same.tr f3), i5.trans (rm_X.st f3)⟩
      · intro _ c4
        exact rm_passes (d := d) (b := 1134) (h := i) false (by omega) (by omega) hR i3 i4.l hl ok.1
      · rintro _ c4 y4 M4 ⟨rfl, s4, f4⟩ c5
        have h2 := sp_hits_le (L := G.L) (E := G.E) (s := (sp_jrun G.L G.E G.pl i).2.2) (wind := sp_wind G.L ((sp_jrun G.L G.E G.pl i).2.2 4 1) + 0) (G.L 4 0)
        have h6 := hl.1
        rw [← nI_0, nI_leI (by unfold sp_hour; simp only; omega) (by omega)] at c5
        have hs : sp_jrun G.L G.E G.pl (i + 1) = ((sp_jrun G.L G.E G.pl i).1, (sp_jrun G.L G.E G.pl i).2.1, (sp_hour G.L G.E (sp_jrun G.L G.E G.pl i).2.2 0).1) := by
          rw [hstep]; unfold sp_jstep; rw [if_pos c4, if_neg (by omega)]
        rw [nI_1]
        exact ih (_, _, M4) ⟨by rw [hs] <;> rfl, by rw [hs] <;> rfl, by rw [hs]; exact s4, i4.same (rm_same.tr f4), i5.trans (rm_X.st f4)⟩
      · rintro _ c4 y4 M4 ⟨rfl, s4, f4⟩ c5 c6
        rw [sp_oI_pos hf0] at c6
        have hs : sp_jrun G.L G.E G.pl (i + 1) = ((sp_jrun G.L G.E G.pl i).1, (sp_jrun G.L G.E G.pl i).2.1, (sp_hour G.L G.E (sp_jrun G.L G.E G.pl i).2.2 0).1) := by
          rw [hstep]; unfold sp_jstep; rw [if_pos c4, if_neg (fun q => c6 q.2)]
        rw [nI_1]
        exact ih (_, _, M4) ⟨by rw [hs] <;> rfl, by rw [hs] <;> rfl, by rw [hs]; exact s4, i4.same (rm_same.tr f4), i5.trans (rm_X.st f4)⟩
      · rintro _ c4 y4 M4 ⟨rfl, s4, f4⟩ c5 c6
        rw [sp_oI_pos hf0, Classical.not_not] at c6
        have h2 := sp_hits_le (L := G.L) (E := G.E) (s := (sp_jrun G.L G.E G.pl i).2.2) (wind := sp_wind G.L ((sp_jrun G.L G.E G.pl i).2.2 4 1) + 0) (G.L 4 0)
        have h6 := hl.1
        rw [← nI_0, nI_leI (by unfold sp_hour; simp only; omega) (by omega)] at c5
        have hs : sp_jrun G.L G.E G.pl (i + 1) = ((sp_jrun G.L G.E G.pl i).1, some i, (sp_hour G.L G.E (sp_jrun G.L G.E G.pl i).2.2 0).1) := by
          rw [hstep]; unfold sp_jstep; rw [if_pos c4, if_pos ⟨by omega, c6⟩]
        rw [nI_1]
        exact ih (_, _, M4) ⟨by rw [hs] <;> rfl, by rw [hs] <;> rfl, by rw [hs]; exact s4, i4.same (rm_same.tr f4), i5.trans (rm_X.st f4)⟩
  · rintro x1 M1 ⟨rfl, rfl⟩ c
    rw [w2, b2i_0] at c
    have e : sp_ix 3 w = none := by simpa using c
    exact ⟨_, rfl, by unfold sp_qjudged; rw [e], hg0, rm_X.th⟩
end PGR
