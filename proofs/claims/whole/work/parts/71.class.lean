/-! the class: what can be undone, the marks; the calls by hand -/
theorem pg_min_nI {a b : Nat} (ha : a < 2 ^ 31) (hb : b < 2 ^ 31) : pg_min (nI a) (nI b) = nI (min a b) := by
  unfold pg_min
  by_cases h : b < a
  · rw [if_pos (nI_lt h ha), Nat.min_eq_right (by omega)]
  · rw [if_neg (by rw [nI_ltI hb ha]; omega), Nat.min_eq_left (by omega)]
theorem pg_max_nI {a b : Nat} (ha : a < 2 ^ 31) (hb : b < 2 ^ 31) : pg_max (nI a) (nI b) = nI (max a b) := by
  unfold pg_max
  by_cases h : a < b
  · rw [if_pos (nI_lt h hb), Nat.max_eq_right (by omega)]
  · rw [if_neg (by rw [nI_ltI ha hb]; omega), Nat.max_eq_left (by omega)]
theorem sp_push_len {us : List sp_N} {s : sp_N} (h : us.length ≤ 16) : (sp_push us s).length = min 16 (us.length + 1) := by
  unfold sp_push
  by_cases h1 : us.length = 16
  · rw [if_pos h1]; simp; omega
  · rw [if_neg h1]; simp; omega
theorem sp_push_get {us : List sp_N} {s t : sp_N} {j : Nat} (h : us.length ≤ 16) (hj : (sp_push us s)[j]? = some t) : (j + 1 = min 16 (us.length + 1) ∧ t = s) ∨ (j + 1 < min 16 (us.length + 1) ∧ us[if us.length = 16 then j + 1 else j]? = some t) := by
  unfold sp_push at hj
  by_cases h1 : us.length = 16
  · rw [if_pos h1] at hj
    rw [if_pos h1]
    by_cases h2 : j < us.tail.length
    · rw [List.getElem?_append_left h2] at hj
      refine Or.inr ⟨by simp at h2; omega, ?_⟩
      rw [← hj, List.getElem?_tail]
    · rw [List.getElem?_append_right (by omega)] at hj
      have h3 := (List.getElem?_eq_some_iff.mp hj).1
      simp at h2 h3
      refine Or.inl ⟨by omega, ?_⟩
      have h4 : j - us.tail.length = 0 := by simp; omega
      rw [h4] at hj
      simpa using hj.symm
  · rw [if_neg h1] at hj
    rw [if_neg h1]
    by_cases h2 : j < us.length
    · rw [List.getElem?_append_left h2] at hj
      exact Or.inr ⟨by omega, hj⟩
    · rw [List.getElem?_append_right (by omega)] at hj
      have h3 := (List.getElem?_eq_some_iff.mp hj).1
      simp at h3
      refine Or.inl ⟨by omega, ?_⟩
      have h4 : j - us.length = 0 := by omega
      rw [h4] at hj
      simpa using hj.symm
section PGP
variable {S : pg_S} {Λ : pg_L} {d h : Nat} {M : pg_M} {G : sp_G} {L s : sp_N} {E : sp_E}
theorem rc_draft {us : List sp_N} {t : Nat} (hF : pg_full Λ) (hu : rc_ut M us t) (hs : rc_S M 3 s) (ho : sp_okS L s h) : pg_Ev S Λ YX6_draft (d + 2) [.ref 19, .ref 3] M (fun r M' => r = none ∧ (rc_S M' (24 + 5 * t) s ∧ rc_ut M' us t ∧ pg_fr [24 + 5 * t, 24 + 5 * t + 1, 24 + 5 * t + 2, 24 + 5 * t + 3, 24 + 5 * t + 4] M M')) := by
  obtain ⟨u1, u2, u3, u4, u5⟩ := hu
  have hcl : (M.1 19 4).toNatClampNeg = t := by rw [u2]; exact nI_clamp (by omega)
  refine oX6_draft (sX6_draft_0 (Q0 := fun M' => rc_S M' (24 + 5 * t) s ∧ pg_fr [24 + 5 * t, 24 + 5 * t + 1, 24 + 5 * t + 2, 24 + 5 * t + 3, 24 + 5 * t + 4] M M') hF.x6 (by rw [hcl]; exact hF.st u1) (by rw [u2]; exact vp_in_nI u1 (by decide)) (by rw [hcl]; exact rc_copyFrom (hF.st u1) hF.now hs ho (by omega)) ?_)
  rintro M1 ⟨a, b⟩
  have b19 : M1.1 19 = M.1 19 := b.1 19 (by simp; omega)
  refine ⟨rfl, a, ⟨u1, by rw [b19]; exact u2, by rw [b19]; exact u3, u4, fun j q e => (u5 j q e).fr (fun i hi => b.1 _ ?_)⟩, b⟩
  have := (List.getElem?_eq_some_iff.mp e).1
  simp
  omega
theorem rc_keepDraft {us : List sp_N} {t : Nat} (hF : pg_full Λ) (hu : rc_ut M us t) (hs : rc_S M (24 + 5 * t) s) : pg_Ev S Λ YX6_keepDraft (d + 1) [.ref 19] M (fun r M' => r = none ∧ (rc_us M' (sp_push us s) ∧ pg_fr [19] M M')) := by
  obtain ⟨u1, u2, u3, u4, u5⟩ := hu
  refine oX6_keepDraft (sX6_keepDraft_0 hF.x6 (by decide) (fun N1 hN => ⟨rfl, ?_⟩))
  have e1 : (M.1 19 4 + 1) - (M.1 19 4 + 1) / (Int32.ofNat 17) * (Int32.ofNat 17) = nI ((t + 1) % 17) := by
    rw [u2, nI_1]; exact pk_rem (by omega) (by omega) (by omega)
  rw [e1, pg_si_at, pk_un (by decide), u3, nI_1, show (16 : Int32) = nI 16 from rfl, pg_min_nI (by omega) (by omega)] at hN
  have f : pg_fr [19] M N1 := by rw [hN]; exact (pg_fr.si (by simp)).trans (pg_fr.si (by simp))
  refine ⟨⟨(t + 1) % 17, Nat.mod_lt _ (by decide), ?_, ?_, ?_, fun j q e => ?_⟩, f⟩
  · rw [hN, pg_si_at, pk_un (by decide), pg_si_at, pk_us]
  · rw [hN, pg_si_at, pk_us, sp_push_len u4]
  · rw [sp_push_len u4]; omega
  · rw [sp_push_len u4]
    rcases sp_push_get u4 e with ⟨h1, rfl⟩ | ⟨h1, h2⟩
    · have : 24 + 5 * (((t + 1) % 17 + 17 - min 16 (us.length + 1) + j) % 17) = 24 + 5 * t := by omega
      rw [this]
      exact hs.keep f (fun i hi => by simp; omega)
    · have g := (u5 _ q h2).keep f (fun i hi => by simp; omega)
      have : (t + 17 - us.length + (if us.length = 16 then j + 1 else j)) % 17 = ((t + 1) % 17 + 17 - min 16 (us.length + 1) + j) % 17 := by split <;> omega
      rw [← this]
      exact g
theorem rc_stepBack {us : List sp_N} {t : Nat} (hF : pg_full Λ) (hu : rc_ut M us t) (hs : rc_S M 3 s) (ho : ∀ q, q ∈ us → sp_okS L q h) : pg_Ev S Λ YX6_stepBack (d + 2) [.ref 19, .ref 3] M (fun r M' => ∃ v, r = some (.int v) ∧ (v = b2i us.getLast?.isSome ∧ rc_S M' 3 (us.getLast?.getD s) ∧ rc_us M' us.dropLast ∧ pg_fr [3, 4, 5, 6, 7, 19] M M')) := by
  obtain ⟨u1, u2, u3, u4, u5⟩ := hu
  by_cases h0 : us.length = 0
  · have e0 : us = [] := List.length_eq_zero_iff.mp h0
    subst e0
    refine oX6_stepBack (sX6_stepBack_0 (Q0 := fun _ => True) hF.x6 hF.now ?_ ?_ ?_ ?_ ?_)
    rotate_left 4
    · intro _; exact ⟨0, rfl, rfl, hs, ⟨t, u1, u2, u3, u4, u5⟩, pg_fr.rfl'⟩
    all_goals (intro c; exact absurd (by rw [u3]; rfl) c)
  · have hl : us.getLast? = some (us.getLast (fun e => h0 (by rw [e]; rfl))) := List.getLast?_eq_some_getLast _
    generalize us.getLast (fun e => h0 (by rw [e]; rfl)) = z at hl
    have hz : us[us.length - 1]? = some z := by rw [← hl, List.getLast?_eq_getElem?]
    have hzm : z ∈ us := List.mem_of_getLast? hl
    have w : (pg_si M 19 5 (M.1 19 5 - 1)).1 19 4 = nI t := by rw [pg_si_at, pk_un (by decide), u2]
    have w5 : M.1 19 5 - 1 = nI (us.length - 1) := by rw [u3, show us.length = (us.length - 1) + 1 by omega, nI_pred]; simp
    have e1 : (((pg_si M 19 5 (M.1 19 5 - 1)).1 19 4 + Int32.ofNat 17) - 1) - (((pg_si M 19 5 (M.1 19 5 - 1)).1 19 4 + Int32.ofNat 17) - 1) / (Int32.ofNat 17) * (Int32.ofNat 17) = nI ((t + 16) % 17) := by
      rw [w, show Int32.ofNat 17 = nI 17 from rfl, nI_add, show t + 17 = (t + 16) + 1 by omega, nI_pred]; exact pk_rem (by omega) (by omega) (by omega)
    refine oX6_stepBack (sX6_stepBack_0 (Q0 := fun M' => rc_S M' 3 z ∧ pg_fr [3, 3 + 1, 3 + 2, 3 + 3, 3 + 4] (pg_si (pg_si M 19 5 (nI (us.length - 1))) 19 4 (nI ((t + 16) % 17))) M') hF.x6 hF.now ?_ ?_ ?_ ?_ ?_)
    · intro _; decide
    · intro _ y1 hy; rw [hy, e1, pg_si_at, pk_us]; exact vp_in_nI (by omega) (by decide)
    · intro _ y1 hy
      rw [hy, e1, w5, pg_si_at, pk_us, nI_clamp (by omega)]
      have hs9 := (u5 _ z hz).keep (X := [19]) (M' := pg_si (pg_si M 19 5 (nI (us.length - 1))) 19 4 (nI ((t + 16) % 17))) ((pg_fr.si (by simp)).trans (pg_fr.si (by simp))) (fun i hi => by simp; omega)
      rw [show (t + 17 - us.length + (us.length - 1)) % 17 = (t + 16) % 17 by omega] at hs9
      exact rc_copyFrom hF.now (hF.st (Nat.mod_lt _ (by decide))) hs9 (ho z hzm) (by omega)
    · intro _ y1 hy M1 q
      obtain ⟨q1, q2⟩ := q
      have q3 : pg_fr [3, 4, 5, 6, 7] (pg_si (pg_si M 19 5 (nI (us.length - 1))) 19 4 (nI ((t + 16) % 17))) M1 := q2
      have f : pg_fr [3, 4, 5, 6, 7, 19] M M1 := ((pg_fr.si (by simp)).trans (pg_fr.si (by simp))).trans (q3.mono (fun b hb => by simp at hb ⊢; omega))
      refine ⟨1, rfl, by rw [hl]; rfl, by rw [hl]; exact q1, ⟨(t + 16) % 17, Nat.mod_lt _ (by decide), ?_, ?_, ?_, fun j q e => ?_⟩, f⟩
      · rw [q3.1 19 (by simp), pg_si_at, pk_us]
      · rw [q3.1 19 (by simp), pg_si_at, pk_un (by decide), pg_si_at, pk_us, List.length_dropLast]
      · rw [List.length_dropLast]; omega
      · have hj := (List.getElem?_eq_some_iff.mp e).1
        rw [List.length_dropLast] at hj ⊢
        have e' : us[j]? = some q := by rw [← e, List.getElem?_dropLast, if_pos hj]
        have g := (u5 _ q e').keep f (fun i hi => by simp; omega)
        rw [show ((t + 16) % 17 + 17 - (us.length - 1) + j) % 17 = (t + 17 - us.length + j) % 17 by omega]
        exact g
    · intro c; rw [u3, ← nI_0, nI_eq (by omega) (by omega)] at c; exact absurd c h0
theorem rc_feltCopy {a b : Nat} {f : List (Nat × Nat × Nat)} (hA : pg_isX2 Λ a) (hB : pg_isX2 Λ b) (hf : rc_F M b f) (hap : a + 6 ≤ b ∨ b + 6 ≤ a) : pg_Ev S Λ YX2_copyFrom (d + 1) [.ref a, .ref b] M (fun r M' => r = none ∧ (rc_F M' a f ∧ pg_fr [a, a + 1, a + 2, a + 3] M M')) := by
  have h8 := hf.2.1
  refine oX2_copyFrom (sX2_copyFrom_0 hB hA (fun N1 hN1 N2 hN2 N3 hN3 => ⟨rfl, ?_, ?_⟩))
  · have q3 : N3.1 b = M.1 b := by rw [hN3, pg_sa_ne (by omega), hN2, pg_sa_ne (by omega), hN1, pg_sa_ne (by omega)]
    have r1 : ∀ c, c < 8 → N1.1 (a + 1) c = M.1 (b + 1) c := fun c hc => by rw [hN1, pg_sa_at, pg_cpy (k := 8) rfl hc]
    have r2 : ∀ c, c < 8 → N2.1 (a + 2) c = M.1 (b + 2) c := fun c hc => by
      rw [hN2, pg_sa_at, pg_cpy (k := 8) rfl hc, hN1, pg_sa_ne (by omega)]
    have r3 : ∀ c, c < 8 → N3.1 (a + 3) c = M.1 (b + 3) c := fun c hc => by
      rw [hN3, pg_sa_at, pg_cpy (k := 8) rfl hc, hN2, pg_sa_ne (by omega), hN1, pg_sa_ne (by omega)]
    refine ⟨by rw [pg_si_at, pk_us, q3]; exact hf.1, h8, fun j e he => ?_⟩
    have hj := (List.getElem?_eq_some_iff.mp he).1
    have t1 : N3.1 (a + 1) = N1.1 (a + 1) := by rw [hN3, pg_sa_ne (by omega), hN2, pg_sa_ne (by omega)]
    have t2 : N3.1 (a + 2) = N2.1 (a + 2) := by rw [hN3, pg_sa_ne (by omega)]
    rw [pg_si_ne (by omega), pg_si_ne (by omega), pg_si_ne (by omega), t1, t2, r1 j (by omega), r2 j (by omega), r3 j (by omega)]
    exact hf.2.2 j e he
  · rw [hN3, hN2, hN1]
    exact (((pg_fr.sa (by simp)).trans (pg_fr.sa (by simp))).trans (pg_fr.sa (by simp))).trans (pg_fr.si (by simp))
theorem rc_take {x : Int32} (hF : pg_full Λ) (hg : rc_G M G) (hk : sp_okG G h) : pg_Ev S Λ YX10_take (d + 5) [.ref 0, .int x] M (fun r M' => ∃ v, r = some (.int v) ∧ (v = (sp_qtake G x).1 ∧ rc_G M' (sp_qtake G x).2 ∧ rc_out M M')) := by
  obtain ⟨t, hu⟩ := hg.u
  have u1 := hu.1
  refine oX10_take (sX10_take_0 (Q0 := fun M' => rc_S M' (24 + 5 * t) G.s ∧ rc_ut M' G.us t ∧ pg_fr [24 + 5 * t, 24 + 5 * t + 1, 24 + 5 * t + 2, 24 + 5 * t + 3, 24 + 5 * t + 4] M M') (Q1 := fun v M' => v = b2i (sp_take G.L G.s x).isSome ∧ rc_S M' 3 ((sp_take G.L G.s x).getD G.s) ∧ rc_S M' (24 + 5 * t) G.s ∧ rc_ut M' G.us t ∧ pg_pf rc_d M M') (Q2 := fun M' => rc_us M' (sp_push G.us G.s) ∧ rc_S M' 3 ((sp_take G.L G.s x).getD G.s) ∧ pg_pf rc_d M M') hF.x10 hF.x6 hF.now (rc_draft hF hu hg.s hk.s.1) ?_ ?_ ?_ ?_)
  · rintro M1 ⟨a1, a2, a3⟩
    have p1 : pg_pf rc_d M M1 := pg_pf.of a3 (fun b hb => by simp at hb; unfold rc_d; omega)
    rw [a3.2.2]
    refine pg_Ev.imp ?_ (rc_takeIn hF.now (hg.d.x5 hF) (hg.s.keep a3 (fun i hi => by simp; omega)) (rc_L.of hg p1) hk.l hk.s.1)
    rintro r M2 ⟨v, e1, e2, e3, e4⟩
    exact ⟨v, e1, e2, e3, a1.keep e4 (fun i hi => by simp; omega), a2.fr (e4.1 _ (by simp)) (fun b h1 h2 => e4.1 _ (by simp; omega)), p1.trans (pg_pf.of e4 (fun b hb => by simp at hb; unfold rc_d; omega))⟩
  · rintro M1 _ v M2 ⟨_, a2, a3, a4, a5⟩ _
    refine pg_Ev.imp ?_ (pg_Ev.mono (by omega) (rc_keepDraft (d := 0) hF a4 a3))
    rintro r M3 ⟨e1, e2, e3⟩
    exact ⟨e1, e2, a2.keep e3 (fun i hi => by simp; omega), a5.trans (pg_pf.of e3 (fun b hb => by simp at hb; unfold rc_d; omega))⟩
  · rintro M1 _ v M2 ⟨rfl, _⟩ c M3 ⟨a1, a2, a3⟩
    cases ht : sp_take G.L G.s x with
    | none => rw [ht] at c; exact absurd rfl c
    | some q =>
      rw [ht] at a2
      have e : sp_qtake G x = (1, G.did q (sp_push G.us G.s)) := by unfold sp_qtake; rw [ht]
      rw [e]
      exact ⟨1, rfl, rfl, hg.did a3 a2 a1, rc_out.dd a3⟩
  · rintro M1 _ v M2 ⟨rfl, a2, a3, a4, a5⟩ c
    cases ht : sp_take G.L G.s x with
    | some q => rw [ht] at c; exact absurd c (show ¬ (1 : Int32) = 0 by decide)
    | none =>
      rw [ht] at a2
      have e : sp_qtake G x = (0, G) := by unfold sp_qtake; rw [ht]
      rw [e]
      exact ⟨0, rfl, rfl, hg.did (us := G.us) (t := G.s) a5 a2 ⟨t, a4⟩, rc_out.dd a5⟩
theorem rc_hang {x b : Int32} (hF : pg_full Λ) (hg : rc_G M G) (hk : sp_okG G h) : pg_Ev S Λ YX10_hang (d + 5) [.ref 0, .int x, .int b] M (fun r M' => ∃ v, r = some (.int v) ∧ (v = (sp_qhang G x b).1 ∧ rc_G M' (sp_qhang G x b).2 ∧ rc_out M M')) := by
  obtain ⟨t, hu⟩ := hg.u
  have u1 := hu.1
  refine oX10_hang (sX10_hang_0 (Q0 := fun M' => rc_S M' (24 + 5 * t) G.s ∧ rc_ut M' G.us t ∧ pg_fr [24 + 5 * t, 24 + 5 * t + 1, 24 + 5 * t + 2, 24 + 5 * t + 3, 24 + 5 * t + 4] M M') (Q1 := fun v M' => v = b2i (sp_hang G.L G.s x b).isSome ∧ rc_S M' 3 ((sp_hang G.L G.s x b).getD G.s) ∧ rc_S M' (24 + 5 * t) G.s ∧ rc_ut M' G.us t ∧ pg_pf rc_d M M') (Q2 := fun M' => rc_us M' (sp_push G.us G.s) ∧ rc_S M' 3 ((sp_hang G.L G.s x b).getD G.s) ∧ pg_pf rc_d M M') (Q3 := fun v M' => v = sp_left G.L ((sp_hang G.L G.s x b).getD G.s) ∧ rc_us M' (sp_push G.us G.s) ∧ rc_S M' 3 ((sp_hang G.L G.s x b).getD G.s) ∧ pg_pf rc_d M M') hF.x10 hF.x6 hF.now (rc_draft hF hu hg.s hk.s.1) ?_ ?_ ?_ ?_ ?_)
  · rintro M1 ⟨a1, a2, a3⟩
    have p1 : pg_pf rc_d M M1 := pg_pf.of a3 (fun b hb => by simp at hb; unfold rc_d; omega)
    rw [a3.2.2]
    refine pg_Ev.imp ?_ (pg_Ev.mono (by omega) (rc_hangUp (d := 0) hF.now (hg.d.x5 hF) (hg.s.keep a3 (fun i hi => by simp; omega)) (rc_L.of hg p1) hk.l hk.s.1))
    rintro r M2 ⟨v, e1, e2, e3, e4⟩
    exact ⟨v, e1, e2, e3, a1.keep e4 (fun i hi => by simp; omega), a2.fr (e4.1 _ (by simp)) (fun b h1 h2 => e4.1 _ (by simp; omega)), p1.trans (pg_pf.of e4 (fun b hb => by simp at hb; unfold rc_d; omega))⟩
  · rintro M1 _ v M2 ⟨_, a2, a3, a4, a5⟩ _
    refine pg_Ev.imp ?_ (pg_Ev.mono (by omega) (rc_keepDraft (d := 0) hF a4 a3))
    rintro r M3 ⟨e1, e2, e3⟩
    exact ⟨e1, e2, a2.keep e3 (fun i hi => by simp; omega), a5.trans (pg_pf.of e3 (fun b hb => by simp at hb; unfold rc_d; omega))⟩
  · rintro M1 _ v M2 ⟨rfl, _⟩ c M3 ⟨a1, a2, a3⟩
    rw [a3.2.2]
    cases ht : sp_hang G.L G.s x b with
    | none => rw [ht] at c; exact absurd rfl c
    | some q =>
      rw [ht] at a2
      refine pg_Ev.imp ?_ (pg_Ev.mono (by omega) (rc_roomLeft (d := 0) hF.now (hg.d.x5 hF) a2 (rc_L.of hg a3) hk.l (sp_okS.hang hk.l hk.s.1 ht)))
      rintro r M4 ⟨v, e1, e2, rfl⟩
      exact ⟨v, e1, e2, a1, a2, a3⟩
  · rintro M1 _ v M2 ⟨rfl, _⟩ c M3 _ v4 M4 ⟨e1, a1, a2, a3⟩
    cases ht : sp_hang G.L G.s x b with
    | none => rw [ht] at c; exact absurd rfl c
    | some q =>
      rw [ht] at a2 e1
      have e : sp_qhang G x b = (sp_left G.L q, G.did q (sp_push G.us G.s)) := by unfold sp_qhang; rw [ht]
      rw [e]
      exact ⟨_, rfl, e1, hg.did a3 a2 a1, rc_out.dd a3⟩
  · rintro M1 _ v M2 ⟨rfl, a2, a3, a4, a5⟩ c
    cases ht : sp_hang G.L G.s x b with
    | some q => rw [ht] at c; exact absurd c (show ¬ (1 : Int32) = 0 by decide)
    | none =>
      rw [ht] at a2
      have e : sp_qhang G x b = (-1, G) := by unfold sp_qhang; rw [ht]
      rw [e]
      exact ⟨-1, rfl, rfl, hg.did (us := G.us) (t := G.s) a5 a2 ⟨t, a4⟩, rc_out.dd a5⟩
theorem rc_wash {x : Int32} (hF : pg_full Λ) (hg : rc_G M G) (hk : sp_okG G h) : pg_Ev S Λ YX10_wash (d + 5) [.ref 0, .int x] M (fun r M' => ∃ v, r = some (.int v) ∧ (v = (sp_qwash G x).1 ∧ rc_G M' (sp_qwash G x).2 ∧ rc_out M M')) := by
  obtain ⟨t, hu⟩ := hg.u
  have u1 := hu.1
  refine oX10_wash (sX10_wash_0 (Q0 := fun M' => rc_S M' (24 + 5 * t) G.s ∧ rc_ut M' G.us t ∧ pg_fr [24 + 5 * t, 24 + 5 * t + 1, 24 + 5 * t + 2, 24 + 5 * t + 3, 24 + 5 * t + 4] M M') (Q1 := fun v M' => v = ((sp_wash G.L G.s x).map (fun q => nI q.1)).getD (-1) ∧ rc_S M' 3 (((sp_wash G.L G.s x).map (fun q => q.2)).getD G.s) ∧ rc_S M' (24 + 5 * t) G.s ∧ rc_ut M' G.us t ∧ pg_pf rc_d M M') (Q2 := fun M' => rc_us M' (sp_push G.us G.s) ∧ rc_S M' 3 (((sp_wash G.L G.s x).map (fun q => q.2)).getD G.s) ∧ pg_pf rc_d M M') hF.x10 hF.x6 hF.now (rc_draft hF hu hg.s hk.s.1) ?_ ?_ ?_ ?_)
  · rintro M1 ⟨a1, a2, a3⟩
    have p1 : pg_pf rc_d M M1 := pg_pf.of a3 (fun b hb => by simp at hb; unfold rc_d; omega)
    rw [a3.2.2]
    refine pg_Ev.imp ?_ (rc_washOut hF.now (hg.d.x5 hF) (hg.s.keep a3 (fun i hi => by simp; omega)) (rc_L.of hg p1) hk.l hk.s.1)
    rintro r M2 ⟨v, e1, e2, e3, e4⟩
    exact ⟨v, e1, e2, e3, a1.keep e4 (fun i hi => by simp; omega), a2.fr (e4.1 _ (by simp)) (fun b h1 h2 => e4.1 _ (by simp; omega)), p1.trans (pg_pf.of e4 (fun b hb => by simp at hb; unfold rc_d; omega))⟩
  · rintro M1 _ v M2 ⟨rfl, a2, a3, a4, a5⟩ c
    cases ht : sp_wash G.L G.s x with
    | some q =>
      rw [ht] at c
      have : q.1 ≤ 9 := by
        unfold sp_wash at ht
        cases hi : sp_ix (G.L 4 0) x with
        | none => rw [hi] at ht; cases ht
        | some j =>
          rw [hi] at ht
          simp only [Option.bind_some] at ht
          split at ht
          · cases ht; exact (hk.s.1.2.2.1 j).2.1
          · cases ht
      exact absurd c (fun e => by have e2 : nI q.1 = -1 := e; have e3 := nI_pos (n := q.1) (by omega); rw [e2] at e3; exact e3 (by decide))
    | none =>
      rw [ht] at a2
      have e : sp_qwash G x = (-1, G) := by unfold sp_qwash; rw [ht]
      rw [e]
      exact ⟨_, rfl, rfl, hg.did (us := G.us) (t := G.s) a5 a2 ⟨t, a4⟩, rc_out.dd a5⟩
  · rintro M1 _ v M2 ⟨_, a2, a3, a4, a5⟩ _
    refine pg_Ev.imp ?_ (pg_Ev.mono (by omega) (rc_keepDraft (d := 0) hF a4 a3))
    rintro r M3 ⟨e1, e2, e3⟩
    exact ⟨e1, e2, a2.keep e3 (fun i hi => by simp; omega), a5.trans (pg_pf.of e3 (fun b hb => by simp at hb; unfold rc_d; omega))⟩
  · rintro M1 _ v M2 ⟨rfl, _⟩ c M3 ⟨a1, a2, a3⟩
    cases ht : sp_wash G.L G.s x with
    | none => rw [ht] at c; exact absurd rfl c
    | some q =>
      rw [ht] at a2
      have e : sp_qwash G x = (nI q.1, G.did q.2 (sp_push G.us G.s)) := by unfold sp_qwash; rw [ht]
      rw [e]
      exact ⟨_, rfl, rfl, hg.did a3 a2 a1, rc_out.dd a3⟩
theorem rc_buy {x : Int32} (hF : pg_full Λ) (hg : rc_G M G) (hk : sp_okG G h) : pg_Ev S Λ YX10_buy (d + 5) [.ref 0, .int x] M (fun r M' => ∃ v, r = some (.int v) ∧ (v = (sp_qbuy G x).1 ∧ rc_G M' (sp_qbuy G x).2 ∧ rc_out M M')) := by
  obtain ⟨t, hu⟩ := hg.u
  have u1 := hu.1
  have h8 := hk.s.1.1
  refine oX10_buy (sX10_buy_0 (Q0 := fun M' => rc_S M' (24 + 5 * t) G.s ∧ rc_ut M' G.us t ∧ pg_fr [24 + 5 * t, 24 + 5 * t + 1, 24 + 5 * t + 2, 24 + 5 * t + 3, 24 + 5 * t + 4] M M') (Q1 := fun v M' => v = (if (sp_buy G.s x).isSome then nI (G.s 4 0) else -1) ∧ rc_S M' 3 ((sp_buy G.s x).getD G.s) ∧ rc_S M' (24 + 5 * t) G.s ∧ rc_ut M' G.us t ∧ pg_pf rc_d M M') (Q2 := fun M' => rc_us M' (sp_push G.us G.s) ∧ rc_S M' 3 ((sp_buy G.s x).getD G.s) ∧ pg_pf rc_d M M') hF.x10 hF.x6 hF.now (rc_draft hF hu hg.s hk.s.1) ?_ ?_ ?_ ?_)
  · rintro M1 ⟨a1, a2, a3⟩
    have p1 : pg_pf rc_d M M1 := pg_pf.of a3 (fun b hb => by simp at hb; unfold rc_d; omega)
    refine pg_Ev.imp ?_ (rc_addPeg hF.now (hg.s.keep a3 (fun i hi => by simp; omega)) hk.s.1)
    rintro r M2 ⟨v, e1, e2, e3, e4⟩
    exact ⟨v, e1, e2, e3, a1.keep e4 (fun i hi => by simp; omega), a2.fr (e4.1 _ (by simp)) (fun b h1 h2 => e4.1 _ (by simp; omega)), p1.trans (pg_pf.of e4 (fun b hb => by simp at hb; unfold rc_d; omega))⟩
  · rintro M1 _ v M2 ⟨rfl, a2, a3, a4, a5⟩ c
    cases ht : sp_buy G.s x with
    | some q =>
      rw [ht] at c
      exact absurd c (fun e => by have e2 : nI (G.s 4 0) = -1 := e; have e3 := nI_pos (n := G.s 4 0) (by omega); rw [e2] at e3; exact e3 (by decide))
    | none =>
      rw [ht] at a2
      have e : sp_qbuy G x = (-1, G) := by unfold sp_qbuy; rw [ht]
      rw [e]
      exact ⟨_, rfl, rfl, hg.did (us := G.us) (t := G.s) a5 a2 ⟨t, a4⟩, rc_out.dd a5⟩
  · rintro M1 _ v M2 ⟨_, a2, a3, a4, a5⟩ _
    refine pg_Ev.imp ?_ (pg_Ev.mono (by omega) (rc_keepDraft (d := 0) hF a4 a3))
    rintro r M3 ⟨e1, e2, e3⟩
    exact ⟨e1, e2, a2.keep e3 (fun i hi => by simp; omega), a5.trans (pg_pf.of e3 (fun b hb => by simp at hb; unfold rc_d; omega))⟩
  · rintro M1 _ v M2 ⟨rfl, _⟩ c M3 ⟨a1, a2, a3⟩
    cases ht : sp_buy G.s x with
    | none => rw [ht] at c; exact absurd rfl c
    | some q =>
      rw [ht] at a2
      have e : sp_qbuy G x = (nI (G.s 4 0), G.did q (sp_push G.us G.s)) := by unfold sp_qbuy; rw [ht]
      rw [e]
      exact ⟨_, rfl, rfl, hg.did a3 a2 a1, rc_out.dd a3⟩
theorem rc_hour (hh : h < 2 ^ 30) (hF : pg_full Λ) (hg : rc_G M G) (hk : sp_okG G h) : pg_Ev S Λ YX10_hour (d + 6) [.ref 0] M (fun r M' => ∃ v, r = some (.int v) ∧ (v = (sp_qhour G).1 ∧ rc_G M' (sp_qhour G).2 ∧ rc_out M M')) := by
  obtain ⟨t, hu⟩ := hg.u
  have u1 := hu.1
  have gdl := hg.d.l
  refine oX10_hour (sX10_hour_0 (Q0 := fun M' => rc_S M' (24 + 5 * t) G.s ∧ rc_ut M' G.us t ∧ pg_fr [24 + 5 * t, 24 + 5 * t + 1, 24 + 5 * t + 2, 24 + 5 * t + 3, 24 + 5 * t + 4] M M') (Q1 := fun M' => rc_us M' (sp_push G.us G.s) ∧ rc_S M' 3 G.s ∧ pg_pf rc_d M M') (Q2 := fun v M' => v = nI (sp_hour G.L G.E G.s 0).2 ∧ rc_us M' (sp_push G.us G.s) ∧ rc_S M' 3 (sp_hour G.L G.E G.s 0).1 ∧ pg_pf rc_d M M') hF.x10 hF.x6 hF.now (pg_Ev.mono (by omega) (rc_draft (d := 0) hF hu hg.s hk.s.1)) ?_ ?_ ?_)
  · rintro M1 ⟨a1, a2, a3⟩
    have p1 : pg_pf rc_d M M1 := pg_pf.of a3 (fun b hb => by simp at hb; unfold rc_d; omega)
    refine pg_Ev.imp ?_ (pg_Ev.mono (by omega) (rc_keepDraft (d := 0) hF a2 a1))
    rintro r M3 ⟨e1, e2, e3⟩
    exact ⟨e1, e2, (hg.s.keep a3 (fun i hi => by simp; omega)).keep e3 (fun i hi => by simp; omega), p1.trans (pg_pf.of e3 (fun b hb => by simp at hb; unfold rc_d; omega))⟩
  · rintro M1 _ M2 ⟨a1, a2, a3⟩
    rw [a3.2.2]
    refine pg_Ev.imp ?_ (pg_Ev.mono (by omega) (rc_passHour (d := 0) (gust := 0) hh (by omega) hF.now (hg.d.x5 hF) a2 (rc_L.of hg a3) hk.l hk.s.1 (hg.d.ap (by omega))))
    rintro r M3 ⟨v, e1, e2, e3, e4⟩
    refine ⟨v, e1, e2, a1.fr (e4.1 _ (by simp; omega)) (fun b h1 h2 => e4.1 _ (by simp; omega)), e3, a3.trans (pg_pf.of e4 (fun b hb => by simp at hb; unfold rc_d rc_q; omega))⟩
  · rintro M1 _ M2 _ v M3 ⟨rfl, a1, a2, a3⟩
    exact ⟨_, rfl, rfl, hg.did a3 a2 a1, rc_out.dd a3⟩
theorem rc_undo (hF : pg_full Λ) (hg : rc_G M G) (hk : sp_okG G h) : pg_Ev S Λ YX10_undo (d + 3) [.ref 0] M (fun r M' => ∃ v, r = some (.int v) ∧ (v = (sp_qundo G).1 ∧ rc_G M' (sp_qundo G).2 ∧ rc_out M M')) := by
  obtain ⟨t, hu⟩ := hg.u
  refine oX10_undo (sX10_undo_0 (Q0 := fun v M' => v = b2i G.us.getLast?.isSome ∧ rc_S M' 3 (G.us.getLast?.getD G.s) ∧ rc_us M' G.us.dropLast ∧ pg_fr [3, 4, 5, 6, 7, 19] M M') hF.x10 hF.x6 (rc_stepBack hF hu hg.s (fun q hq => (hk.u q hq).1)) ?_ ?_)
  · rintro v M1 ⟨rfl, a1, a2, a3⟩
    have p1 : pg_pf rc_d M M1 := pg_pf.of a3 (fun b hb => by simp at hb; unfold rc_d; omega)
    have g := hg.did p1 a1 a2
    cases ht : G.us.getLast? with
    | none =>
      have e : sp_qundo G = (0, G) := by unfold sp_qundo; rw [ht]
      rw [ht] at g
      have e2 : G.us = [] := List.getLast?_eq_none_iff.mp ht
      have e3 : G.did ((none : Option sp_N).getD G.s) G.us.dropLast = G := by
        unfold sp_G.did
        rw [e2]
        show (G.L, G.E, G.nm, G.s, ([] : List sp_N), G.mk, G.fl, G.pl, G.tp) = G
        rw [← e2]; rfl
      rw [e3] at g
      rw [e]
      exact ⟨0, rfl, rfl, g, rc_out.dd p1⟩
    | some z =>
      have e : sp_qundo G = (1, G.did z G.us.dropLast) := by unfold sp_qundo; rw [ht]
      rw [ht] at g
      rw [e]
      exact ⟨1, rfl, rfl, g, rc_out.dd p1⟩
  · rintro v M1 ⟨rfl, _⟩; exact b2i_nar _
end PGP
