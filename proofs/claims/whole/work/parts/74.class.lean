/-! the class: judged, holds, change -/
section PGP
variable {S : pg_S} {Λ : pg_L} {d h l : Nat} {M : pg_M} {G : sp_G} {L s : sp_N} {E : sp_E} {f : List (Nat × Nat × Nat)}
theorem rc_canDo {p i : Nat} {e : Nat × Nat × Nat} (hi : i < 30) (h4 : e.1 < 4) (hX : pg_isX1 Λ p) (hA : pg_isX9 Λ 8) (hL : pg_isX5 Λ l) (hp : M.1 (p + 1) i = nI (11 + e.1) ∧ M.1 (p + 2) i = (if e.1 < 3 then nI e.2.1 else -1) ∧ M.1 (p + 3) i = rc_det e) (hs : rc_S M 8 s) (hl : rc_L M l L E) (hk : sp_okL L E) (ho : sp_okS L s h) : pg_Ev S Λ YX1_canDo (d + 4) [.ref p, .ref l, .ref 8, .int (nI i)] M (fun r M' => ∃ v, r = some (.int v) ∧ (v = b2i (sp_does L s e.1 e.2.1 e.2.2).isSome ∧ rc_S M' 8 ((sp_does L s e.1 e.2.1 e.2.2).getD s) ∧ pg_fr [8, 9, 10, 11, 12] M M')) := by
  obtain ⟨p1, p2, p3⟩ := hp
  have hcl : (nI i).toNatClampNeg = i := nI_clamp (by omega)
  have c11 : M.1 (p + 1) (nI i).toNatClampNeg = 11 ↔ e.1 = 0 := by rw [hcl, p1, show (11 : Int32) = nI 11 from rfl, nI_eq (by omega) (by omega)]; omega
  have c12 : M.1 (p + 1) (nI i).toNatClampNeg = 12 ↔ e.1 = 1 := by rw [hcl, p1, show (12 : Int32) = nI 12 from rfl, nI_eq (by omega) (by omega)]; omega
  have c13 : M.1 (p + 1) (nI i).toNatClampNeg = 13 ↔ e.1 = 2 := by rw [hcl, p1, show (13 : Int32) = nI 13 from rfl, nI_eq (by omega) (by omega)]; omega
  have k4 := ho.1
  refine oX1_canDo (sX1_canDo_0 (Q0 := fun v M' => v = b2i (sp_hang L s (nI e.2.1) (nI e.2.2)).isSome ∧ rc_S M' 8 ((sp_hang L s (nI e.2.1) (nI e.2.2)).getD s) ∧ pg_fr [8 + 3] M M') (Q1 := fun v M' => v = b2i (sp_take L s (nI e.2.1)).isSome ∧ rc_S M' 8 ((sp_take L s (nI e.2.1)).getD s) ∧ pg_fr [8 + 3] M M') (Q2 := fun v M' => v = ((sp_wash L s (nI e.2.1)).map (fun q => nI q.1)).getD (-1) ∧ rc_S M' 8 (((sp_wash L s (nI e.2.1)).map (fun q => q.2)).getD s) ∧ pg_fr [8 + 1, 8 + 2] M M') (Q3 := fun v M' => v = (if (sp_buy s (nI e.2.1)).isSome then nI (s 4 0) else -1) ∧ rc_S M' 8 ((sp_buy s (nI e.2.1)).getD s) ∧ pg_fr [8, 8 + 4] M M') hX hA (vp_in_nI hi (by decide)) ?_ ?_ ?_ ?_ ?_ ?_ ?_ ?_ ?_ ?_ ?_ ?_)
  · intro c; rw [c11] at c
    rw [hcl, p2, p3, if_pos (by omega), show rc_det e = nI e.2.2 by unfold rc_det; rw [if_pos c]]
    exact rc_hangUp hA hL hs hl hk ho
  · rintro c v M1 ⟨rfl, a2, a3⟩; rw [c11] at c
    have e1 : sp_does L s e.1 e.2.1 e.2.2 = sp_hang L s (nI e.2.1) (nI e.2.2) := by unfold sp_does; rw [if_pos c]
    rw [e1]
    exact ⟨_, rfl, rfl, a2, a3.mono (fun b hb => by simp at hb ⊢; omega)⟩
  · rintro c v M1 ⟨rfl, a2, a3⟩; exact b2i_nar _
  · intro c c2; rw [c11] at c; rw [c12] at c2
    rw [hcl, p2, if_pos (by omega)]
    exact pg_Ev.mono (by omega) (rc_takeIn (d := 0) hA hL hs hl hk ho)
  · rintro c c2 v M1 ⟨rfl, a2, a3⟩; rw [c11] at c; rw [c12] at c2
    have e1 : sp_does L s e.1 e.2.1 e.2.2 = sp_take L s (nI e.2.1) := by unfold sp_does; rw [if_neg c, if_pos c2]
    rw [e1]
    exact ⟨_, rfl, rfl, a2, a3.mono (fun b hb => by simp at hb ⊢; omega)⟩
  · rintro c c2 v M1 ⟨rfl, a2, a3⟩; exact b2i_nar _
  · intro c c2 c3; rw [c11] at c; rw [c12] at c2; rw [c13] at c3
    rw [hcl, p2, if_pos (by omega)]
    exact pg_Ev.mono (by omega) (rc_washOut (d := 0) hA hL hs hl hk ho)
  · rintro c c2 c3 v M1 ⟨rfl, a2, a3⟩ c4; rw [c11] at c; rw [c12] at c2; rw [c13] at c3
    have e1 : sp_does L s e.1 e.2.1 e.2.2 = (sp_wash L s (nI e.2.1)).map (fun q => q.2) := by unfold sp_does; rw [if_neg c, if_neg c2, if_pos c3]
    rw [e1]
    cases ht : sp_wash L s (nI e.2.1) with
    | none => rw [ht] at a2; exact ⟨_, rfl, rfl, a2, a3.mono (fun b hb => by simp at hb ⊢; omega)⟩
    | some q =>
      rw [ht] at c4
      have : q.1 ≤ 9 := by
        unfold sp_wash at ht
        cases hi : sp_ix (L 4 0) (nI e.2.1) with
        | none => rw [hi] at ht; cases ht
        | some j =>
          rw [hi] at ht
          simp only [Option.bind_some] at ht
          split at ht
          · cases ht; exact (ho.2.2.1 j).2.1
          · cases ht
      exact absurd c4 (fun e => by have e2 : nI q.1 = -1 := e; have e3 := nI_pos (n := q.1) (by omega); rw [e2] at e3; exact e3 (by decide))
  · rintro c c2 c3 v M1 ⟨rfl, a2, a3⟩ c4; rw [c11] at c; rw [c12] at c2; rw [c13] at c3
    have e1 : sp_does L s e.1 e.2.1 e.2.2 = (sp_wash L s (nI e.2.1)).map (fun q => q.2) := by unfold sp_does; rw [if_neg c, if_neg c2, if_pos c3]
    rw [e1]
    cases ht : sp_wash L s (nI e.2.1) with
    | none => rw [ht] at c4; exact absurd rfl c4
    | some q => rw [ht] at a2; exact ⟨_, rfl, rfl, a2, a3.mono (fun b hb => by simp at hb ⊢; omega)⟩
  · intro c c2 c3; rw [c11] at c; rw [c12] at c2; rw [c13] at c3
    rw [hcl, p3, show rc_det e = nI e.2.1 by unfold rc_det; rw [if_neg c, if_pos (by omega)]]
    exact rc_addPeg hA hs ho
  · rintro c c2 c3 v M1 ⟨rfl, a2, a3⟩ c4; rw [c11] at c; rw [c12] at c2; rw [c13] at c3
    have e1 : sp_does L s e.1 e.2.1 e.2.2 = sp_buy s (nI e.2.1) := by unfold sp_does; rw [if_neg c, if_neg c2, if_neg c3]
    rw [e1]
    cases ht : sp_buy s (nI e.2.1) with
    | none => rw [ht] at a2; exact ⟨_, rfl, rfl, a2, a3.mono (fun b hb => by simp at hb ⊢; omega)⟩
    | some q =>
      rw [ht] at c4
      exact absurd c4 (fun e => by have e2 : nI (s 4 0) = -1 := e; have e3 := nI_pos (n := s 4 0) (by omega); rw [e2] at e3; exact e3 (by decide))
  · rintro c c2 c3 v M1 ⟨rfl, a2, a3⟩ c4; rw [c11] at c; rw [c12] at c2; rw [c13] at c3
    have e1 : sp_does L s e.1 e.2.1 e.2.2 = sp_buy s (nI e.2.1) := by unfold sp_does; rw [if_neg c, if_neg c2, if_neg c3]
    rw [e1]
    cases ht : sp_buy s (nI e.2.1) with
    | none => rw [ht] at c4; exact absurd rfl c4
    | some q => rw [ht] at a2; exact ⟨_, rfl, rfl, a2, a3.mono (fun b hb => by simp at hb ⊢; omega)⟩
/-- rows of the trial, of the workings of the laws, and of the day's plan, of which the lines are as they were -/
def rc_jf (p l : Nat) (M M' : pg_M) : Prop := pg_fr [p, 8, 9, 10, 11, 12, l + 11, l + 14] M M' ∧ M'.1 p 3 = M.1 p 3
theorem rc_jf.trans {p l : Nat} {M M1 M2 : pg_M} (h : rc_jf p l M M1) (h2 : rc_jf p l M1 M2) : rc_jf p l M M2 := ⟨h.1.trans h2.1, h2.2.trans h.2⟩
theorem rc_jf.of {p l : Nat} {M M1 : pg_M} (hp : 15 ≤ p) (hpl : p ≠ l + 11 ∧ p ≠ l + 14) (h : pg_fr [8, 9, 10, 11, 12, l + 11, l + 14] M M1) : rc_jf p l M M1 := ⟨h.mono (fun b hb => by simp at hb ⊢; omega), by rw [h.1 p (by simp; omega)]⟩
theorem rc_jf.si {p l k : Nat} {M : pg_M} {v : Int32} (h : k ≠ 3) : rc_jf p l M (pg_si M p k v) := ⟨pg_fr.si (by simp), by rw [pg_si_at, pk_un (Ne.symm h)]⟩
theorem rc_judge {p : Nat} {pl : List (Nat × Nat × Nat)} (hp9 : p = 199 ∨ p = 203) (hl9 : l = 169 ∨ l = 184) (hX : pg_isX1 Λ p) (hA : pg_isX9 Λ 8) (hL : pg_isX5 Λ l) (hpl : rc_P M p pl) (h30 : pl.length ≤ 30) (hok : ∀ (j : Nat) (e : Nat × Nat × Nat), pl[j]? = some e → sp_okP L e) (hl : rc_L M l L E) (hk : sp_okL L E) : pg_Ev S Λ YX1_judge (d + 6) [.ref p, .ref l, .ref 8] M (fun r M' => r = none ∧ (M'.1 p 4 = sp_oI (sp_jrun L E pl pl.length).1 ∧ M'.1 p 5 = sp_oI (sp_jrun L E pl pl.length).2.1 ∧ rc_S M' 8 (sp_jrun L E pl pl.length).2.2 ∧ rc_jf p l M M')) := by
  have hap : pg_apart 8 l := by unfold pg_apart; omega
  have f0 : rc_jf p l M (pg_si (pg_si M p 4 (-1)) p 5 (-1)) := (rc_jf.si (by decide)).trans (rc_jf.si (by decide))
  have lk : ∀ {m : pg_M}, rc_jf p l M m → rc_L m l L E := fun hm => hl.keep hm.1 (fun j a b c => by simp; omega)
  have pk : ∀ {m : pg_M}, rc_jf p l M m → rc_P m p pl := fun hm => hpl.fr hm.2 (fun j a b => hm.1.1 _ (by simp; omega))
  refine oX1_judge (sX1_judge_0 (Q0 := fun M' => rc_S M' 8 (sp_start L) ∧ pg_fr [8, 8 + 1, 8 + 2, 8 + 3, 8 + 4] (pg_si (pg_si M p 4 (-1)) p 5 (-1)) M') hX hA (pg_Ev.mono (by omega) (rc_begin (d := 0) hA hL (lk f0) hk hap)) ?_)
  rintro M1 ⟨s1, f1⟩
  have f1' : rc_jf p l M M1 := f0.trans (rc_jf.of (by omega) (by omega) (f1.mono (fun b hb => by simp at hb ⊢; omega)))
  refine pg_loop (fun i (m : pg_M) => pg_At S Λ YX1_judge (d + 6) 17 [(0, .ref p), (1, .ref l), (2, .ref 8), (3, .int (nI i))] [] m _) (fun i m => m.1 p 4 = sp_oI (sp_jrun L E pl i).1 ∧ m.1 p 5 = sp_oI (sp_jrun L E pl i).2.1 ∧ rc_S m 8 (sp_jrun L E pl i).2.2 ∧ rc_jf p l M m) pl.length ?_ ?_ 0 M1 (Nat.zero_le _) ⟨?_, ?_, s1, f1'⟩
  · rintro m ⟨m1, m2, m3, m4⟩
    have hm : m.1 p 3 = nI pl.length := (pk m4).1
    have c9 : nI pl.length ≤ nI pl.length := nI_le (Nat.le_refl _) (by omega)
    refine sX1_judge_17 (Q0 := fun _ _ => True) (Q1 := fun _ _ => True) hX hA ?_ ?_ ?_ ?_ ?_ ?_ ?_ ?_ ?_ ?_ <;> simp only [hm]
    · exact fun _ => ⟨trivial, m1, m2, m3, m4⟩
    all_goals exact fun c => absurd c9 c
  · rintro i m hi ⟨m1, m2, m3, m4⟩ ih
    have hpm := pk m4
    have hm : m.1 p 3 = nI pl.length := hpm.1
    have c9 : ¬ nI pl.length ≤ nI i := nI_ge hi (by omega)
    have hget : pl[i]? = some (pl.getD i (0, 0, 0)) := by rw [List.getElem?_eq_getElem hi]; simp [hi]
    have hstep : sp_jrun L E pl (i + 1) = sp_jstep L E i (pl.getD i (0, 0, 0)) (sp_jrun L E pl i) := rfl
    have ok := sp_jrun_ok (pl := pl) hk i
    have hw0 : ∀ k, (sp_jrun L E pl i).1 = some k → k < 2 ^ 31 := fun k q => by have := ok.2.1 k q; omega
    have hf0 : ∀ k, (sp_jrun L E pl i).2.1 = some k → k < 2 ^ 31 := fun k q => by have := ok.2.2 k q; omega
    generalize pl.getD i (0, 0, 0) = e at hget hstep
    obtain ⟨o1, o2, o3, o4⟩ := hok i e hget
    have hpe := hpm.2 i e hget
    have hcl : (nI i).toNatClampNeg = i := nI_clamp (by omega)
    have c15 : m.1 (p + 1) (nI i).toNatClampNeg = 15 ↔ e.1 = 4 := by rw [hcl, hpe.1, show (15 : Int32) = nI 15 from rfl, nI_eq (by omega) (by omega)]; omega
    have fj : ∀ {N : pg_M}, pg_fr [8, 9, 10, 11, 12, l + 11, l + 14] m N → rc_jf p l M N := fun hN => m4.trans (rc_jf.of (by omega) (by omega) hN)
    generalize hJ : sp_jrun L E pl i = J at m1 m2 m3 hstep ok hw0 hf0
    obtain ⟨j1, j2, js⟩ := J
    simp only at m1 m2 m3 ok hw0 hf0
    have hle := sp_hour_le (s := js) (g := 0) hk
    refine sX1_judge_17 (Q0 := fun v M' => v = b2i (sp_does L js e.1 e.2.1 e.2.2).isSome ∧ rc_S M' 8 ((sp_does L js e.1 e.2.1 e.2.2).getD js) ∧ pg_fr [8, 9, 10, 11, 12] m M') (Q1 := fun v M' => v = nI (sp_hour L E js 0).2 ∧ rc_S M' 8 (sp_hour L E js 0).1 ∧ pg_fr [8, 8 + 1, 8 + 2, 8 + 3, 8 + 4, l + 11, l + 14] m M') hX hA ?_ ?_ ?_ ?_ ?_ ?_ ?_ ?_ ?_ ?_ <;> simp only [hm]
    · exact fun c => absurd c c9
    · intro _; exact vp_in_nI (by omega) (by decide)
    · intro _ c; rw [c15] at c
      exact pg_Ev.mono (by omega) (rc_canDo (d := 0) (by omega) (by omega) hX hA hL hpe m3 (lk m4) hk ok.1)
    · rintro _ c v M2 ⟨rfl, a2, a3⟩ c2; rw [c15] at c
      have a4 := fj (a3.mono (fun b hb => by simp at hb ⊢; omega))
      rw [nI_1]
      have hd : ∃ t, sp_does L js e.1 e.2.1 e.2.2 = some t := by
        cases hh : sp_does L js e.1 e.2.1 e.2.2 with
        | none => rw [hh] at c2; exact absurd rfl c2
        | some t => exact ⟨t, rfl⟩
      obtain ⟨t, ht⟩ := hd
      have e2 : sp_jrun L E pl (i + 1) = (j1, j2, t) := by rw [hstep]; unfold sp_jstep; rw [if_neg c, ht]; simp
      rw [ht] at a2
      refine ih M2 ⟨?_, ?_, ?_, a4⟩ <;> rw [e2]
      · rw [a3.1 p (by simp; omega)]; exact m1
      · rw [a3.1 p (by simp; omega)]; exact m2
      · exact a2
    · rintro _ c v M2 ⟨rfl, a2, a3⟩ c2 c3; rw [c15] at c
      have a4 := fj (a3.mono (fun b hb => by simp at hb ⊢; omega))
      have b4 : M2.1 p 4 = sp_oI j1 := by rw [a3.1 p (by simp; omega)]; exact m1
      have b5 : M2.1 p 5 = sp_oI j2 := by rw [a3.1 p (by simp; omega)]; exact m2
      rw [b4, sp_oI_m1 hw0] at c3
      rw [nI_1]
      have ht : sp_does L js e.1 e.2.1 e.2.2 = none := by
        cases hh : sp_does L js e.1 e.2.1 e.2.2 with
        | none => rfl
        | some t => rw [hh] at c2; exact absurd c2 (show ¬ (1 : Int32) = 0 by decide)
      have e2 : sp_jrun L E pl (i + 1) = (j1, j2, js) := by rw [hstep]; unfold sp_jstep; rw [if_neg c, ht]; simp [c3]
      rw [ht] at a2
      refine ih M2 ⟨?_, ?_, ?_, a4⟩ <;> rw [e2]
      · exact b4
      · exact b5
      · exact a2
    · rintro _ c v M2 ⟨rfl, a2, a3⟩ c2 c3; rw [c15] at c
      have a4 := fj (a3.mono (fun b hb => by simp at hb ⊢; omega))
      have b4 : M2.1 p 4 = sp_oI j1 := by rw [a3.1 p (by simp; omega)]; exact m1
      have b5 : M2.1 p 5 = sp_oI j2 := by rw [a3.1 p (by simp; omega)]; exact m2
      rw [b4, sp_oI_m1 hw0] at c3
      rw [nI_1]
      have ht : sp_does L js e.1 e.2.1 e.2.2 = none := by
        cases hh : sp_does L js e.1 e.2.1 e.2.2 with
        | none => rfl
        | some t => rw [hh] at c2; exact absurd c2 (show ¬ (1 : Int32) = 0 by decide)
      have e2 : sp_jrun L E pl (i + 1) = (some i, j2, js) := by rw [hstep]; unfold sp_jstep; rw [if_neg c, ht]; simp [c3]
      rw [ht] at a2
      refine ih _ ⟨?_, ?_, ?_, a4.trans (rc_jf.si (by decide))⟩ <;> rw [e2]
      · rw [pg_si_at, pk_us]; rfl
      · rw [pg_si_at, pk_un (by decide)]; exact b5
      · exact a2.fr (fun j hj => by rw [pg_si_ne (by omega)])
    · intro _ c
      exact pg_Ev.mono (by omega) (rc_passHour (d := 0) (gust := 0) (h := i) (by omega) (by omega) hA hL m3 (lk m4) hk ok.1 hap)
    · rintro _ c v M2 ⟨rfl, a2, a3⟩ c2; rw [c15] at c
      have a4 := fj (a3.mono (fun b hb => by simp at hb ⊢; omega))
      rw [← nI_0, nI_leI (by omega) (by omega)] at c2
      rw [nI_1]
      have e2 : sp_jrun L E pl (i + 1) = (j1, j2, (sp_hour L E js 0).1) := by rw [hstep]; unfold sp_jstep; rw [if_pos c]; simp [show ¬ 0 < (sp_hour L E js 0).2 by omega]
      refine ih M2 ⟨?_, ?_, ?_, a4⟩ <;> rw [e2]
      · rw [a3.1 p (by simp; omega)]; exact m1
      · rw [a3.1 p (by simp; omega)]; exact m2
      · exact a2
    · rintro _ c v M2 ⟨rfl, a2, a3⟩ c2 c3; rw [c15] at c
      have a4 := fj (a3.mono (fun b hb => by simp at hb ⊢; omega))
      have b4 : M2.1 p 4 = sp_oI j1 := by rw [a3.1 p (by simp; omega)]; exact m1
      have b5 : M2.1 p 5 = sp_oI j2 := by rw [a3.1 p (by simp; omega)]; exact m2
      rw [← nI_0, nI_leI (by omega) (by omega)] at c2
      rw [b5, sp_oI_m1 hf0] at c3
      rw [nI_1]
      have e2 : sp_jrun L E pl (i + 1) = (j1, j2, (sp_hour L E js 0).1) := by rw [hstep]; unfold sp_jstep; rw [if_pos c]; simp [c3]
      refine ih M2 ⟨?_, ?_, ?_, a4⟩ <;> rw [e2]
      · exact b4
      · exact b5
      · exact a2
    · rintro _ c v M2 ⟨rfl, a2, a3⟩ c2 c3; rw [c15] at c
      have a4 := fj (a3.mono (fun b hb => by simp at hb ⊢; omega))
      have b4 : M2.1 p 4 = sp_oI j1 := by rw [a3.1 p (by simp; omega)]; exact m1
      have b5 : M2.1 p 5 = sp_oI j2 := by rw [a3.1 p (by simp; omega)]; exact m2
      rw [← nI_0, nI_leI (by omega) (by omega)] at c2
      rw [b5, sp_oI_m1 hf0] at c3
      rw [nI_1]
      have e2 : sp_jrun L E pl (i + 1) = (j1, some i, (sp_hour L E js 0).1) := by rw [hstep]; unfold sp_jstep; rw [if_pos c]; simp [c3, show 0 < (sp_hour L E js 0).2 by omega]
      refine ih _ ⟨?_, ?_, ?_, a4.trans (rc_jf.si (by decide))⟩ <;> rw [e2]
      · rw [pg_si_at, pk_un (by decide)]; exact b4
      · rw [pg_si_at, pk_us]; rfl
      · exact a2.fr (fun j hj => by rw [pg_si_ne (by omega)])
  · rw [f1.1 p (by simp; omega), pg_si_at, pk_un (by decide), pg_si_at, pk_us]; rfl
  · rw [f1.1 p (by simp; omega), pg_si_at, pk_us]; rfl
theorem rc_judged {w : Int32} (hF : pg_full Λ) (hg : rc_G M G) (hk : sp_okG G h) : pg_Ev S Λ YX10_judged (d + 7) [.ref 0, .int w] M (fun r M' => ∃ v, r = some (.int v) ∧ (v = sp_qjudged G w ∧ rc_G M' G ∧ rc_out M M')) := by
  have gdl := hg.d.l
  have gdp := hg.d.p
  have hL := hg.d.x5 hF
  have hJ := rc_judge (S := S) (d := d) gdp gdl (hg.d.x1 hF) hF.trial hL hg.p hk.p.1 hk.p.2 hg.l hk.l
  have ok := sp_jrun_ok (pl := G.pl) hk.l G.pl.length
  have sm : ∀ {N : pg_M}, rc_jf (M.2.2 0 10) (M.2.2 0 8) M N → rc_sm M N := fun {N} hN => by
    refine ⟨fun b h1 h2 h3 => hN.1.1 b ?_, ⟨?_, ?_⟩, fun b h1 h2 h3 => hN.1.2.1 b ?_, hN.1.2.2⟩
    · simp; unfold rc_q at h1; omega
    · rcases gdp with e | e
      · have := hN.2; rw [e] at this; exact this
      · rw [hN.1.1 199 (by simp; omega)]
    · rcases gdp with e | e
      · rw [hN.1.1 203 (by simp; omega)]
      · have := hN.2; rw [e] at this; exact this
    · simp; unfold rc_q at h1; omega
  have no : ∀ c : sp_ix 3 w = none, ∃ v, (some (Value.int (-2)) = some (Value.int v)) ∧ (v = sp_qjudged G w ∧ rc_G M G ∧ rc_out M M) := fun c => ⟨-2, rfl, by unfold sp_qjudged; rw [c], hg, rc_out.rfl'⟩
  have nw : (w < 0 ∨ ¬ w ≤ 2) → sp_ix 3 w = none := fun q => by
    rw [sp_ix_none (by decide)]
    rintro k hk1 rfl
    rcases q with q | q
    · exact nI_pos (by omega) q
    · rw [show (2 : Int32) = nI 2 from rfl, nI_leI (by omega) (by omega)] at q; omega
  have yw : ¬ w < 0 → w ≤ 2 → ∃ j, j < 3 ∧ w = nI j ∧ sp_ix 3 w = some j := fun a b => by
    obtain ⟨k, hk1, rfl⟩ := nI_of a
    rw [show (2 : Int32) = nI 2 from rfl, nI_leI hk1 (by omega)] at b
    exact ⟨k, by omega, rfl, sp_ix_nI (by decide) (by omega)⟩
  generalize hJr : sp_jrun G.L G.E G.pl G.pl.length = J at hJ ok
  have hq : ∀ j, sp_ix 3 w = some j → sp_qjudged G w = if j = 0 then sp_oI J.1 else if j = 1 then sp_oI J.2.1 else nI (sp_worth G.L (sp_laws G.L J.2.2)) := fun j e => by unfold sp_qjudged; rw [e, hJr]
  refine oX10_judged (sX10_judged_0 (Q0 := fun M' => M'.1 (M.2.2 0 10) 4 = sp_oI J.1 ∧ M'.1 (M.2.2 0 10) 5 = sp_oI J.2.1 ∧ rc_S M' 8 J.2.2 ∧ rc_jf (M.2.2 0 10) (M.2.2 0 8) M M') (Q1 := fun v M' => v = nI (sp_worth G.L (sp_laws G.L J.2.2)) ∧ rc_jf (M.2.2 0 10) (M.2.2 0 8) M M') hF.x10 (hg.d.x1 hF) hF.trial ?_ ?_ ?_ ?_ ?_ ?_ ?_ ?_ ?_)
  · intro c; exact no (nw (Or.inl c))
  · intro _ _; exact hJ
  · rintro _ _ M1 ⟨a1, a2, a3, a4⟩ c0 c1
    rw [a4.1.2.2]
    refine pg_Ev.imp ?_ (pg_Ev.mono (by omega) (rc_worthOfLaws (d := 0) hF.trial hL a3 (hg.l.keep a4.1 (fun j a b c => by simp; omega)) hk.l ok.1))
    rintro r M2 ⟨v, e1, e2, rfl⟩
    exact ⟨v, e1, e2, a4⟩
  · rintro c c2 M1 _ c0 c1 v M2 ⟨rfl, a4⟩
    obtain ⟨j, j3, rfl, hj⟩ := yw c c2
    rw [show (0 : Int32) = nI 0 from rfl, nI_eq (by omega) (by omega)] at c0
    rw [show (1 : Int32) = nI 1 from rfl, nI_eq (by omega) (by omega)] at c1
    exact ⟨_, rfl, by rw [hq j hj, if_neg c0, if_neg c1], hg.same (sm a4), rc_out.sm (sm a4)⟩
  · rintro _ _ M1 ⟨a1, a2, a3, a4⟩ _ _; rw [a4.1.2.2]; exact hg.d.x1 hF
  · rintro c c2 M1 ⟨a1, a2, a3, a4⟩ c0 c1
    obtain ⟨j, j3, rfl, hj⟩ := yw c c2
    rw [show (0 : Int32) = nI 0 from rfl, nI_eq (by omega) (by omega)] at c0
    rw [show (1 : Int32) = nI 1 from rfl, nI_eq (by omega) (by omega)] at c1
    exact ⟨_, rfl, by rw [hq j hj, if_neg c0, if_pos c1, a4.1.2.2]; exact a2, hg.same (sm a4), rc_out.sm (sm a4)⟩
  · rintro _ _ M1 ⟨a1, a2, a3, a4⟩ _; rw [a4.1.2.2]; exact hg.d.x1 hF
  · rintro c c2 M1 ⟨a1, a2, a3, a4⟩ c0
    obtain ⟨j, j3, rfl, hj⟩ := yw c c2
    rw [show (0 : Int32) = nI 0 from rfl, nI_eq (by omega) (by omega)] at c0
    exact ⟨_, rfl, by rw [hq j hj, if_pos c0, a4.1.2.2]; exact a1, hg.same (sm a4), rc_out.sm (sm a4)⟩
  · intro _ c; exact no (nw (Or.inr c))
end PGP
