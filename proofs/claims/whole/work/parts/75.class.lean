/-! the class: holds (an hour of one cloth, where the reference has an hour of all), change -/
/-- two states that are alike for one cloth and its pegs -/
def sp_eqc (c : Nat) (a t : sp_N) : Prop := a 0 c = t 0 c ∧ a 2 c = t 2 c ∧ (∀ p, (a 2 c).testBit p = true → a 3 p = t 3 p) ∧ a 4 0 = t 4 0
theorem sp_eqc.rfl' {c : Nat} {a : sp_N} : sp_eqc c a a := ⟨rfl, rfl, fun _ _ => rfl, rfl⟩
theorem sp_eqc.trans {c : Nat} {a b t : sp_N} (h : sp_eqc c a b) (h2 : sp_eqc c b t) : sp_eqc c a t := ⟨h.1.trans h2.1, h.2.1.trans h2.2.1, fun p q => (h.2.2.1 p q).trans (h2.2.2.1 p (by rw [← h.2.1]; exact q)), h.2.2.2.trans h2.2.2.2⟩
theorem sp_eqc.grips {c : Nat} {a t : sp_N} (h : sp_eqc c a t) : sp_grips a (a 2 c) 0 = sp_grips t (t 2 c) 0 := by
  unfold sp_grips
  rw [h.2.2.2, ← h.2.1]
  refine fb_sm_cong (fun p hp => ?_)
  by_cases q : (a 2 c).testBit p = true
  · rw [if_pos q, if_pos q, h.2.2.1 p q]
  · rw [if_neg q, if_neg q]
theorem sp_eqc.sound {c : Nat} {a t : sp_N} (h : sp_eqc c a t) : a 2 c &&& sp_sound (sp_weak a (a 2 c)) = t 2 c &&& sp_sound (sp_weak t (t 2 c)) := by
  apply Nat.eq_of_testBit_eq
  intro p
  rw [Nat.testBit_and, Nat.testBit_and, ← h.2.1]
  unfold sp_sound
  rw [sp_mk_bit, sp_mk_bit, sp_weak_4, sp_weak_4, h.2.2.2]
  by_cases q : (a 2 c).testBit p = true
  · simp [sp_weak, q, h.2.2.1 p q]
  · rw [ts_nt q]; simp
theorem sp_weak_0 (s : sp_N) (bits : Nat) : sp_weak s bits 0 = s 0 := by funext e; simp [sp_weak]
theorem sp_hit_eqc {L : sp_N} {E : sp_E} {a t : sp_N} {c w : Nat} (h : sp_eqc c a t) : (sp_hit L E a c w).2 = (sp_hit L E t c w).2 ∧ ((sp_hit L E a c w).2 = false → sp_eqc c (sp_hit L E a c w).1 (sp_hit L E t c w).1) := by
  have hs := h.sound
  unfold sp_hit
  rw [← h.1, ← h.grips, ← hs]
  by_cases h1 : 2 * sp_pull L E c (a 0 c) w ≤ sp_grips a (a 2 c) 0
  · rw [if_pos h1, if_pos h1]; exact ⟨rfl, fun _ => h⟩
  · rw [if_neg h1, if_neg h1]
    by_cases h2 : ¬ sp_pull L E c (a 0 c) w ≤ sp_grips a (a 2 c) 0 ∨ a 2 c &&& sp_sound (sp_weak a (a 2 c)) = 0
    · rw [if_pos h2, if_pos h2]; exact ⟨rfl, fun q => by cases q⟩
    · rw [if_neg h2, if_neg h2]
      refine ⟨rfl, fun _ => ⟨?_, ?_, fun p q => ?_, ?_⟩⟩
      · simp only [sp_up]; simp [sp_weak]; exact h.1
      · simp [sp_up]
      · simp [sp_up] at q ⊢
        have q1 := h.2.2.1 p q.1
        simp [sp_weak, ← h.2.1, q.1, q1]
      · simp [sp_up, sp_weak]; exact h.2.2.2
theorem sp_hit_fall {L : sp_N} {E : sp_E} {a : sp_N} {c w : Nat} (h0 : ¬ a 2 c = 0) : (sp_hit L E a c w).2 = decide ((sp_hit L E a c w).1 2 c = 0) := by
  unfold sp_hit
  by_cases h1 : 2 * sp_pull L E c (a 0 c) w ≤ sp_grips a (a 2 c) 0
  · rw [if_pos h1]; simp [h0]
  · rw [if_neg h1]
    by_cases h2 : ¬ sp_pull L E c (a 0 c) w ≤ sp_grips a (a 2 c) 0 ∨ a 2 c &&& sp_sound (sp_weak a (a 2 c)) = 0
    · rw [if_pos h2]; simp [sp_drop, sp_up]
    · rw [if_neg h2]
      have : ¬ a 2 c &&& sp_sound (sp_weak a (a 2 c)) = 0 := fun q => h2 (Or.inr q)
      simp [sp_up, this]
/-- another cloth's pull -/
theorem sp_hit_other {L : sp_N} {E : sp_E} {t : sp_N} {c e w h : Nat} (hce : e ≠ c) (ho : sp_okS L t h) : sp_eqc c t (sp_hit L E t e w).1 := by
  have dis : ∀ p, (t 2 c).testBit p = true → (t 2 e).testBit p = false := fun p q => ho.2.2.2.2.2.2 c e p (fun z => hce z.symm) q
  unfold sp_hit
  split
  · exact sp_eqc.rfl'
  · split
    · refine ⟨?_, ?_, fun p q => ?_, ?_⟩
      · simp [sp_drop, sp_up, sp_weak, Ne.symm hce]
      · simp [sp_drop, sp_up, sp_weak, Ne.symm hce]
      · simp [sp_drop, sp_up, sp_weak, dis p q]
      · simp [sp_drop, sp_up, sp_weak]
    · refine ⟨?_, ?_, fun p q => ?_, ?_⟩
      · simp [sp_up, sp_weak]
      · simp [sp_up, sp_weak, Ne.symm hce]
      · simp [sp_up, sp_weak, dis p q]
      · simp [sp_up, sp_weak]
theorem sp_hits_eqc {L : sp_N} {E : sp_E} {a t : sp_N} {c w h : Nat} (hc : c < L 4 0) (he : sp_eqc c a t) (h0 : ¬ a 2 c = 0) (ho : sp_okS L t h) : ∀ n, n ≤ L 4 0 → (n ≤ c → sp_eqc c a (sp_hits L E t w n).1) ∧ (c < n → ((sp_hit L E a c w).2 = true → (sp_hits L E t w n).1 2 c = 0) ∧ ((sp_hit L E a c w).2 = false → sp_eqc c (sp_hit L E a c w).1 (sp_hits L E t w n).1)) := by
  intro n
  induction n with
  | zero => intro _; exact ⟨fun _ => he, fun q => by omega⟩
  | succ n ih =>
    intro hn
    have ih1 := ih (by omega)
    have okn := ho.hits (E := E) (wind := w) n (by omega)
    simp only [sp_hits]
    generalize sp_hits L E t w n = T at ih1 okn
    by_cases e1 : n = c
    · subst e1
      have q := ih1.1 (Nat.le_refl _)
      have q0 : ¬ T.1 2 n = 0 := by rw [← q.2.1]; exact h0
      rw [if_neg q0]
      refine ⟨fun z => by omega, fun _ => ?_⟩
      have q2 := sp_hit_eqc (L := L) (E := E) (w := w) q
      refine ⟨fun z => ?_, fun z => q2.2 z⟩
      rw [q2.1, sp_hit_fall q0] at z
      simpa using z
    · have oth := sp_hit_other (L := L) (E := E) (t := T.1) (c := c) (e := n) (w := w) e1 okn
      refine ⟨fun z => ?_, fun z => ⟨fun y => ?_, fun y => ?_⟩⟩
      · split
        · exact ih1.1 (by omega)
        · exact (ih1.1 (by omega)).trans oth
      · split
        · exact (ih1.2 (by omega)).1 y
        · show (sp_hit L E T.1 n w).1 2 c = 0
          rw [← oth.2.1]; exact (ih1.2 (by omega)).1 y
      · split
        · exact (ih1.2 (by omega)).2 y
        · exact ((ih1.2 (by omega)).2 y).trans oth
theorem sp_dries_at {L : sp_N} {E : sp_E} {t : sp_N} {c w : Nat} : ∀ n, (∀ k i, k ≠ 0 → sp_dries L E t w n k i = t k i) ∧ sp_dries L E t w n 0 c = if c < n ∧ ¬ t 2 c = 0 then sp_dry L E c (t 0 c) w else t 0 c := by
  intro n
  induction n with
  | zero => exact ⟨fun _ _ _ => rfl, by simp [sp_dries]⟩
  | succ n ih =>
    simp only [sp_dries]
    rw [ih.1 2 n (by decide)]
    by_cases q : t 2 n = 0
    · rw [if_pos q]
      refine ⟨ih.1, ?_⟩
      rw [ih.2]
      by_cases e : c = n
      · subst e; simp [q]
      · simp [show c < n + 1 ↔ c < n by omega]
    · rw [if_neg q]
      refine ⟨fun k i hk => ?_, ?_⟩
      · rw [sp_up_ne (fun z => hk z.1)]; exact ih.1 k i hk
      · by_cases e : c = n
        · subst e
          rw [sp_up_at, if_pos ⟨by omega, q⟩, ih.2, if_neg (fun z => by omega)]
        · rw [sp_up_ne (fun z => e z.2), ih.2]
          simp [show c < n + 1 ↔ c < n by omega]
/-- an hour of one cloth is what an hour of all is for it -/
theorem sp_alone_hour {L : sp_N} {E : sp_E} {a t : sp_N} {c k h : Nat} (hc : c < L 4 0) (he : sp_eqc c a t) (h0 : ¬ a 2 c = 0) (hw : t 4 1 = a 4 1 + k) (ho : sp_okS L t h) : (sp_alone L E a c k).2 = decide ((sp_hour L E t 0).1 2 c = 0) ∧ ((sp_alone L E a c k).2 = false → sp_eqc c (sp_alone L E a c k).1 (sp_hour L E t 0).1) ∧ (sp_alone L E a c k).1 4 1 = a 4 1 := by
  have hs := (sp_hits_eqc (L := L) (E := E) (w := sp_wind L (a 4 1 + k)) hc he h0 ho (L 4 0) (Nat.le_refl _)).2 hc
  have hf := sp_hit_fall (L := L) (E := E) (w := sp_wind L (a 4 1 + k)) h0
  have hd := fun i => sp_dries_at (L := L) (E := E) (t := (sp_hits L E t (sp_wind L (a 4 1 + k)) (L 4 0)).1) (c := i) (w := sp_wind L (a 4 1 + k)) (L 4 0)
  have hit4 : (sp_hit L E a c (sp_wind L (a 4 1 + k))).1 4 1 = a 4 1 := by
    unfold sp_hit
    split
    · rfl
    · split
      · simp [sp_drop, sp_up, sp_weak]
      · simp [sp_up, sp_weak]
  have e2 : (sp_hour L E t 0).1 2 c = (sp_hits L E t (sp_wind L (a 4 1 + k)) (L 4 0)).1 2 c := by
    unfold sp_hour
    rw [hw]
    simp only [Nat.add_zero]
    rw [sp_up_ne (by omega)]
    exact (hd c).1 2 c (by decide)
  cases hb : (sp_hit L E a c (sp_wind L (a 4 1 + k))).2 with
  | true =>
    have e1 : sp_alone L E a c k = sp_hit L E a c (sp_wind L (a 4 1 + k)) := by unfold sp_alone; rw [hb]; rfl
    rw [e1, hb, e2, hs.1 hb]
    exact ⟨rfl, fun q => (Bool.noConfusion q), hit4⟩
  | false =>
    have e1 : sp_alone L E a c k = (sp_up (sp_hit L E a c (sp_wind L (a 4 1 + k))).1 0 c (sp_dry L E c ((sp_hit L E a c (sp_wind L (a 4 1 + k))).1 0 c) (sp_wind L (a 4 1 + k))), false) := by unfold sp_alone; rw [hb]; rfl
    have q := hs.2 hb
    rw [hb] at hf
    have q0 : ¬ (sp_hit L E a c (sp_wind L (a 4 1 + k))).1 2 c = 0 := fun z => by rw [z] at hf; exact absurd hf (by decide)
    rw [e1, e2, ← q.2.1]
    refine ⟨by simp [q0], fun _ => ⟨?_, ?_, fun p z => ?_, ?_⟩, ?_⟩
    · show sp_up _ 0 c _ 0 c = _
      rw [sp_up_at]
      unfold sp_hour
      rw [hw]
      simp only [Nat.add_zero]
      rw [sp_up_ne (by omega), (hd c).2, if_pos ⟨hc, by rw [← q.2.1]; exact q0⟩, q.1]
    · rw [e2, ← q.2.1]
      dsimp only
      rw [sp_up_ne (by omega)]
    · dsimp only
      have z' : ((sp_hit L E a c (sp_wind L (a 4 1 + k))).1 2 c).testBit p = true := by
        have z2 : (sp_up (sp_hit L E a c (sp_wind L (a 4 1 + k))).1 0 c (sp_dry L E c ((sp_hit L E a c (sp_wind L (a 4 1 + k))).1 0 c) (sp_wind L (a 4 1 + k))) 2 c).testBit p = true := z
        rw [sp_up_ne (by omega)] at z2; exact z2
      rw [sp_up_ne (by omega), q.2.2.1 p z']
      unfold sp_hour
      rw [hw]
      simp only [Nat.add_zero]
      rw [sp_up_ne (by omega), (hd c).1 3 p (by decide)]
    · dsimp only
      rw [sp_up_ne (by omega), q.2.2.2]
      unfold sp_hour
      rw [hw]
      simp only [Nat.add_zero]
      rw [sp_up_ne (by omega), (hd c).1 4 0 (by decide)]
    · dsimp only
      rw [sp_up_ne (by omega)]; exact hit4
def sp_alo (L : sp_N) (E : sp_E) (s : sp_N) (c : Nat) : Nat → sp_N
  | 0 => s
  | k + 1 => (sp_alone L E (sp_alo L E s c k) c k).1
theorem sp_hrs_41 {L s : sp_N} {E : sp_E} : ∀ n, sp_hrs L E s n 4 1 = s 4 1 + n := by
  intro n
  induction n with
  | zero => rfl
  | succ n ih => simp only [sp_hrs, sp_hour]; rw [sp_up_at, ih]; omega
theorem sp_okS.alone {L s : sp_N} {E : sp_E} {c k h : Nat} (ho : sp_okS L s h) (hc : c < L 4 0) : sp_okS L (sp_alone L E s c k).1 h := by
  have h1 := ho.hit (E := E) (wind := sp_wind L (s 4 1 + k)) hc
  unfold sp_alone
  split
  · exact h1
  · exact h1.wet (Nat.le_trans sp_dry_le (h1.2.2.1 c).1) hc
theorem sp_alo_eq {L s : sp_N} {E : sp_E} {c h : Nat} (hc : c < L 4 0) (ho : sp_okS L s h) (h0 : ¬ s 2 c = 0) : ∀ k, (∀ j, j < k → ¬ sp_hrs L E s (j + 1) 2 c = 0) → sp_eqc c (sp_alo L E s c k) (sp_hrs L E s k) ∧ ¬ sp_alo L E s c k 2 c = 0 ∧ sp_alo L E s c k 4 1 = s 4 1 ∧ sp_okS L (sp_alo L E s c k) h := by
  intro k
  induction k with
  | zero => intro _; exact ⟨sp_eqc.rfl', h0, rfl, ho⟩
  | succ k ih =>
    intro hj
    obtain ⟨i1, i2, i3, i4⟩ := ih (fun j q => hj j (by omega))
    have q := sp_alone_hour (E := E) (k := k) hc i1 i2 (by rw [sp_hrs_41, i3]) (sp_hrs_ok (E := E) ho k)
    have hk0 := hj k (by omega)
    have hb : (sp_alone L E (sp_alo L E s c k) c k).2 = false := by rw [q.1]; exact decide_eq_false hk0
    refine ⟨q.2.1 hb, ?_, q.2.2.trans i3, i4.alone hc⟩
    show ¬ (sp_alone L E (sp_alo L E s c k) c k).1 2 c = 0
    rw [(q.2.1 hb).2.1]
    exact hk0
section PGP
variable {S : pg_S} {Λ : pg_L} {d h l : Nat} {M : pg_M} {G : sp_G} {L s : sp_N} {E : sp_E}
theorem rc_dy.tr {X : List Nat} {M' : pg_M} (h : rc_dy M) (hf : pg_fr X M M') (hX : ∀ b, b ∈ X → (8 ≤ b ∧ b ≤ 12) ∨ b = M.2.2 0 8 + 11 ∨ b = M.2.2 0 8 + 14) : pg_pf rc_q M M' := pg_pf.of hf (fun b hb => by
  have := h.l
  have := hX b hb
  unfold rc_q
  omega)
theorem rc_G.lq {M' : pg_M} (hg : rc_G M G) (h : pg_pf rc_q M M') : rc_L M' (M.2.2 0 8) G.L G.E := by
  have := (hg.q h).l
  rw [h.2.2] at this
  exact this
theorem rc_holds {x : Int32} (hh : h < 2 ^ 29) (hF : pg_full Λ) (hg : rc_G M G) (hk : sp_okG G h) : pg_Ev S Λ YX10_holds (d + 5) [.ref 0, .int x] M (fun r M' => ∃ v, r = some (.int v) ∧ (v = sp_qholds G x ∧ rc_G M' G ∧ rc_out M M')) := by
  have h6 := hk.l.1
  have h41 := hk.s.1.2.1
  have hL := hg.d.x5 hF
  have gdl := hg.d.l
  have hhas := rc_has' (S := S) (d := d + 4) (x := x) hL hg.l hk.l
  cases hi : sp_ix (G.L 4 0) x with
  | none =>
    have e : sp_qholds G x = -1 := by unfold sp_qholds; rw [hi]
    rw [e]
    rw [hi] at hhas
    refine oX10_holds (sX10_holds_0 (Q0 := fun v M' => v = b2i (none : Option Nat).isSome ∧ M' = M) (Q1 := fun _ => True) hF.x10 hL hF.now hF.trial hhas ?_ ?_ ?_ ?_ ?_)
    · rintro v M1 ⟨rfl, rfl⟩ _; exact ⟨_, rfl, rfl, hg, rc_out.rfl'⟩
    all_goals (rintro v M1 ⟨rfl, rfl⟩ c; exact absurd rfl c)
  | some c =>
    obtain ⟨hc, rfl⟩ := (sp_ix_some (by omega)).mp hi
    have hcl : (nI c).toNatClampNeg = c := nI_clamp (by omega)
    have hq : sp_qholds G (nI c) = if G.s 2 c = 0 then -1 else sp_oI ((sp_hld G.L G.E G.s c).map (fun n => n + 1)) := by unfold sp_qholds; rw [hi]
    rw [hq]
    rw [hi] at hhas
    have hcs : M.1 6 (nI c).toNatClampNeg = nI (G.s 2 c) := by rw [hcl]; exact (hg.s.2.2.1 c (by omega)).2.2
    have h28 := sp_lt8 (c := c) hk.s.1
    refine oX10_holds (sX10_holds_0 (Q0 := fun v M' => v = b2i (some c).isSome ∧ M' = M) (Q1 := fun M' => rc_S M' 8 G.s ∧ pg_fr [8, 8 + 1, 8 + 2, 8 + 3, 8 + 4] M M') hF.x10 hL hF.now hF.trial hhas ?_ ?_ ?_ ?_ ?_)
    · rintro v M1 ⟨rfl, rfl⟩ c; exact absurd c (show ¬ (1 : Int32) = 0 by decide)
    · rintro v M1 ⟨rfl, rfl⟩ _; exact vp_in_nI (by omega) (by decide)
    · rintro v M1 ⟨rfl, rfl⟩ _ _; exact pg_Ev.mono (by omega) (rc_copyFrom (d := 0) hF.trial hF.now hg.s hk.s.1 (by omega))
    · rintro v M1 ⟨rfl, rfl⟩ _ c1 M2 ⟨s2, f2⟩
      rw [hcs, ← nI_0, nI_eq (by omega) (by omega)] at c1
      rw [if_neg c1]
      have p2 : pg_pf rc_q M1 M2 := hg.d.tr f2 (fun b hb => by simp at hb; omega)
      refine pg_loop (fun i (m : pg_M) => pg_At S Λ YX10_holds (d + 5) 38 [(0, .ref 0), (1, .int (nI c)), (2, .int (nI (i + 1)))] [] m _) (fun i m => rc_S m 8 (sp_alo G.L G.E G.s c i) ∧ pg_pf rc_q M1 m ∧ ∀ j, j < i → ¬ sp_hrs G.L G.E G.s (j + 1) 2 c = 0) 40 ?_ ?_ 0 M2 (Nat.zero_le _) ⟨s2, p2, fun j q => by omega⟩
      · rintro m ⟨m1, m2, m3⟩
        have c9 : (40 : Int32) < nI (40 + 1) := by decide
        refine sX10_holds_38 (Q0 := fun _ _ => True) hF.x10 hF.trial (fun _ => ?_) (fun c => absurd c9 c) (fun c => absurd c9 c) (fun c => absurd c9 c)
        refine ⟨_, rfl, ?_, hg.q m2, rc_out.q m2⟩
        have : sp_hld G.L G.E G.s c = none := by
          unfold sp_hld
          rw [List.find?_range_eq_none]
          intro i hi
          simpa using m3 i hi
        rw [this]; rfl
      · rintro i m hi40 ⟨m1, m2, m3⟩ ih
        have c9 : ¬ (40 : Int32) < nI (i + 1) := by rw [show (40 : Int32) = nI 40 from rfl, nI_ltI (by omega) (by omega)]; omega
        obtain ⟨i1, i2, i3, i4⟩ := sp_alo_eq (E := G.E) hc hk.s.1 c1 i m3
        have q := sp_alone_hour (E := G.E) (k := i) hc i1 i2 (by rw [sp_hrs_41, i3]) (sp_hrs_ok (E := G.E) hk.s.1 i)
        have qe : (sp_alone G.L G.E (sp_alo G.L G.E G.s c i) c i).2 = decide (sp_hrs G.L G.E G.s (i + 1) 2 c = 0) := q.1
        refine sX10_holds_38 (Q0 := fun v M' => v = b2i (decide (sp_hrs G.L G.E G.s (i + 1) 2 c = 0)) ∧ rc_S M' 8 (sp_alo G.L G.E G.s c (i + 1)) ∧ pg_pf rc_q M1 M') hF.x10 hF.trial (fun c => absurd c c9) (fun _ => ?_) (fun _ v M3 q1 c3 => ?_) (fun _ v M3 q1 c3 => ?_)
        · rw [m2.2.2, nI_pred]
          refine pg_Ev.imp ?_ (rc_passAlone hc i2 (by omega) hF.trial hL m1 (hg.lq m2) hk.l i4 (hg.d.ap (by omega)))
          rintro r M3 ⟨v, e1, e2, e3, e4⟩
          refine ⟨v, e1, by rw [e2, qe], e3, m2.trans (pg_pf.of e4 (fun b hb => ?_))⟩
          simp at hb
          unfold rc_q
          omega
        · obtain ⟨rfl, q2, q3⟩ := q1
          rw [nI_1]
          refine ih M3 ⟨q2, q3, fun j hj => ?_⟩
          by_cases e : j = i
          · subst e
            rw [b2i_0, decide_eq_false_iff_not] at c3
            exact c3
          · exact m3 j (by omega)
        · obtain ⟨rfl, q2, q3⟩ := q1
          have c4 := of_decide_eq_true (ts_nf (fun z => c3 (b2i_0.mpr z)))
          refine ⟨_, rfl, ?_, hg.q q3, rc_out.q q3⟩
          have : sp_hld G.L G.E G.s c = some i := by
            unfold sp_hld
            rw [List.find?_range_eq_some]
            exact ⟨by simp [c4], by simp; omega, fun j hj => by simpa using m3 j hj⟩
          rw [this]; rfl
    · rintro v M1 ⟨rfl, rfl⟩ _ c1
      rw [hcs, ← nI_0, nI_eq (by omega) (by omega)] at c1
      exact ⟨_, rfl, by rw [if_pos c1], hg, rc_out.rfl'⟩
theorem rc_S.w3 {a p v : Nat} (hs : rc_S M a s) : rc_S (pg_si M (a + 4) p (nI v)) a (sp_up s 3 p v) := by
  obtain ⟨a1, a2, a3, a4⟩ := hs
  refine ⟨by rw [pg_si_ne (by omega)]; simpa [sp_up] using a1, by rw [pg_si_ne (by omega)]; simpa [sp_up] using a2, fun c hc => ?_, fun j hj => ?_⟩
  · rw [pg_si_ne (by omega), pg_si_ne (by omega), pg_si_ne (by omega)]; simpa [sp_up] using a3 c hc
  · rw [pg_si_at]
    by_cases e : j = p
    · subst e; rw [pk_us]; simp [sp_up]
    · rw [pk_un e, sp_up_ne (fun z => e z.2)]
      exact a4 j (by simpa [sp_up] using hj)
theorem rc_worthBehind {pg n : Nat} {x : Int32} (t : sp_N) (hx : (x = -1 ∧ t = G.s) ∨ (x = nI pg ∧ pg < G.s 4 0 ∧ t = sp_up G.s 3 pg 9)) (hn : n ≤ 20) (hh : h < 2 ^ 29) (hF : pg_full Λ) (hg : rc_G M G) (hk : sp_okG G h) : pg_Ev S Λ YX10_worthBehind (d + 5) [.ref 0, .int (nI n), .int x] M (fun r M' => ∃ v, r = some (.int v) ∧ (v = nI (sp_wbh G.L G.E t n) ∧ pg_pf rc_q M M')) := by
  have hL := hg.d.x5 hF
  have gdl := hg.d.l
  have h8 := hk.s.1.1
  have ht : sp_okS G.L t h := by
    rcases hx with ⟨_, rfl⟩ | ⟨_, b, rfl⟩
    · exact hk.s.1
    · exact hk.s.1.grip b (by omega)
  have loop : ∀ m : pg_M, rc_S m 8 t → pg_pf rc_q M m → pg_At S Λ YX10_worthBehind (d + 5) 29 [(0, .ref 0), (1, .int (nI n)), (3, .int 0)] [] m (fun r M' => ∃ v, r = some (.int v) ∧ (v = nI (sp_wbh G.L G.E t n) ∧ pg_pf rc_q M M')) := by
    intro m0 s0 f0
    refine pg_loop (fun i (m : pg_M) => pg_At S Λ YX10_worthBehind (d + 5) 29 [(0, .ref 0), (1, .int (nI n)), (3, .int (nI i))] [] m _) (fun i m => rc_S m 8 (sp_hrs G.L G.E t i) ∧ pg_pf rc_q M m) n ?_ ?_ 0 m0 (Nat.zero_le _) ⟨s0, f0⟩
    · rintro m ⟨m1, m2⟩
      have c9 : nI n ≤ nI n := nI_le (Nat.le_refl _) (by omega)
      refine sX10_worthBehind_29 (Q0 := fun v M' => v = nI (sp_wbh G.L G.E t n) ∧ M' = m) (Q1 := fun _ _ => True) hF.x10 hF.trial (fun _ => ?_) ?_ (fun c => absurd c9 c) (fun c => absurd c9 c)
      · rw [m2.2.2]; exact pg_Ev.mono (by omega) (rc_worthOfLaws (d := 0) hF.trial hL m1 (hg.lq m2) hk.l (sp_hrs_ok (E := G.E) ht n))
      · rintro _ v M1 ⟨rfl, rfl⟩; exact ⟨_, rfl, rfl, m2⟩
    · rintro i m hi ⟨m1, m2⟩ ih
      have c9 : ¬ nI n ≤ nI i := nI_ge hi (by omega)
      refine sX10_worthBehind_29 (Q0 := fun _ _ => True) (Q1 := fun v M' => rc_S M' 8 (sp_hrs G.L G.E t (i + 1)) ∧ pg_pf rc_q M M') hF.x10 hF.trial (fun c => absurd c c9) (fun c => absurd c c9) (fun _ => ?_) ?_
      · rw [m2.2.2]
        refine pg_Ev.imp ?_ (rc_passHour (gust := 0) (by omega) (by omega) hF.trial hL m1 (hg.lq m2) hk.l (sp_hrs_ok (E := G.E) ht i) (hg.d.ap (by omega)))
        rintro r M3 ⟨v, e1, e2, e3, e4⟩
        refine ⟨v, e1, e3, m2.trans (pg_pf.of e4 (fun b hb => ?_))⟩
        simp at hb
        unfold rc_q
        omega
      · rintro _ v M3 q; rw [nI_1]; exact ih M3 q
  refine oX10_worthBehind (sX10_worthBehind_0 (Q0 := fun M' => rc_S M' 8 G.s ∧ pg_fr [8, 8 + 1, 8 + 2, 8 + 3, 8 + 4] M M') hF.x10 hF.trial (pg_Ev.mono (by omega) (rc_copyFrom (d := 0) hF.trial hF.now hg.s hk.s.1 (by omega))) ?_ ?_ ?_)
  · rintro M1 ⟨s1, f1⟩ c
    rcases hx with ⟨_, rfl⟩ | ⟨rfl, b, _⟩
    · exact loop M1 s1 (hg.d.tr f1 (fun b hb => by simp at hb; omega))
    · exact absurd c (fun e => by have e3 := nI_pos (n := pg) (by omega); rw [e] at e3; exact e3 (by decide))
  · rintro M1 ⟨s1, f1⟩ c
    rcases hx with ⟨rfl, _⟩ | ⟨rfl, b, _⟩
    · exact absurd rfl c
    · exact vp_in_nI (by omega) (by decide)
  · rintro M1 ⟨s1, f1⟩ c
    rcases hx with ⟨rfl, _⟩ | ⟨rfl, b, rfl⟩
    · exact absurd rfl c
    · rw [nI_clamp (by omega)]
      exact loop _ (s1.w3 (v := 9)) ((hg.d.tr f1 (fun b hb => by simp at hb; omega)).trans (pg_pf.si (by unfold rc_q; omega)))
theorem rc_change {x : Int32} (hh : h < 2 ^ 29) (hF : pg_full Λ) (hg : rc_G M G) (hk : sp_okG G h) : pg_Ev S Λ YX10_change (d + 6) [.ref 0, .int x] M (fun r M' => ∃ v, r = some (.int v) ∧ (v = sp_qchange G x ∧ rc_G M' G ∧ rc_out M M')) := by
  have h8 := hk.s.1.1
  by_cases hx : ∃ n, 0 < n ∧ n < 21 ∧ x = nI n
  · obtain ⟨n, n0, n1, rfl⟩ := hx
    have hq : sp_qchange G (nI n) = sp_oI (sp_chg G.L G.E G.s n (G.s 4 0)).1 := by unfold sp_qchange; rw [sp_ix_nI (by decide) n1]; simp only; rw [if_neg (by omega)]
    rw [hq]
    have a1 : ¬ nI n < 1 := by rw [show (1 : Int32) = nI 1 from rfl, nI_ltI (by omega) (by omega)]; omega
    have a2 : nI n ≤ 20 := by rw [show (20 : Int32) = nI 20 from rfl, nI_leI (by omega) (by omega)]; omega
    refine oX10_change (sX10_change_0 (Q0 := fun v M' => v = nI (sp_wbh G.L G.E G.s n) ∧ pg_pf rc_q M M') hF.x10 (fun c => absurd c a1) (fun _ _ => rc_worthBehind (pg := 0) G.s (Or.inl ⟨rfl, rfl⟩) (by omega) hh hF hg hk) ?_ (fun _ c => absurd a2 c))
    rintro _ _ v M1 ⟨rfl, f1⟩
    refine pg_loop (fun i (q : Int32 × Int32 × pg_M) => pg_At S Λ YX10_change (d + 6) 25 [(0, .ref 0), (1, .int (nI n)), (2, .int q.1), (3, .int q.2.1), (4, .int (nI i))] [] q.2.2 _) (fun i q => q.1 = sp_oI (sp_chg G.L G.E G.s n i).1 ∧ q.2.1 = nI (sp_chg G.L G.E G.s n i).2 ∧ pg_pf rc_q M q.2.2) (G.s 4 0) ?_ ?_ 0 (_, _, M1) (Nat.zero_le _) ⟨rfl, rfl, f1⟩
    · rintro ⟨v2, v3, m⟩ ⟨rfl, rfl, m3⟩
      have hm : m.1 3 4 = nI (G.s 4 0) := (hg.q m3).s.1
      have c9 : nI (G.s 4 0) ≤ nI (G.s 4 0) := nI_le (Nat.le_refl _) (by omega)
      refine sX10_change_25 (Q0 := fun _ _ => True) hF.x10 hF.now ?_ ?_ ?_ ?_ <;> simp only [hm]
      · exact fun _ => ⟨_, rfl, rfl, hg.q m3, rc_out.q m3⟩
      all_goals exact fun c => absurd c9 c
    · rintro i ⟨v2, v3, m⟩ hi ⟨rfl, rfl, m3⟩ ih
      have hm : m.1 3 4 = nI (G.s 4 0) := (hg.q m3).s.1
      have c9 : ¬ nI (G.s 4 0) ≤ nI i := nI_ge hi (by omega)
      have l1 := sp_chg_le (s := G.s) (n := n) hk.l i
      have l2 : sp_wbh G.L G.E (sp_up G.s 3 i 9) n ≤ 594 := sp_worth_le hk.l _
      simp only at m3 hm ⊢
      refine sX10_change_25 (Q0 := fun v M' => v = nI (sp_wbh G.L G.E (sp_up G.s 3 i 9) n) ∧ pg_pf rc_q m M') hF.x10 hF.now ?_ ?_ ?_ ?_ <;> simp only [hm]
      · exact fun c => absurd c c9
      · intro _; exact rc_worthBehind (pg := i) _ (Or.inr ⟨rfl, hi, rfl⟩) (by omega) hh hF (hg.q m3) hk
      · rintro _ v M2 ⟨rfl, f2⟩ c1
        rw [nI_leI (by omega) (by omega)] at c1
        rw [nI_1]
        have e : sp_chg G.L G.E G.s n (i + 1) = sp_chg G.L G.E G.s n i := by simp only [sp_chg]; rw [if_neg (by omega)]
        exact ih (_, _, M2) ⟨by rw [e] <;> rfl, by rw [e] <;> rfl, m3.trans f2⟩
      · rintro _ v M2 ⟨rfl, f2⟩ c1
        rw [nI_leI (by omega) (by omega)] at c1
        rw [nI_1]
        have e : sp_chg G.L G.E G.s n (i + 1) = (some i, sp_wbh G.L G.E (sp_up G.s 3 i 9) n) := by simp only [sp_chg]; rw [if_pos (by omega)]
        exact ih (_, _, M2) ⟨by rw [e] <;> rfl, by rw [e] <;> rfl, m3.trans f2⟩
  · have hq : sp_qchange G x = -1 := by
      unfold sp_qchange
      cases hi : sp_ix 21 x with
      | none => rfl
      | some n =>
        obtain ⟨a, rfl⟩ := (sp_ix_some (by decide)).mp hi
        simp only
        by_cases e : n = 0
        · rw [if_pos e]
        · exact absurd ⟨n, by omega, a, rfl⟩ hx
    rw [hq]
    have no : ¬ x < 1 → x ≤ 20 → False := fun a b => by
      have a0 : ¬ x < 0 := fun q => a (by rw [fa_lt] at q ⊢; have e0 : (0 : Int32).toInt = 0 := rfl; have e1 : (1 : Int32).toInt = 1 := rfl; omega)
      obtain ⟨k, hk1, rfl⟩ := nI_of a0
      rw [show (1 : Int32) = nI 1 from rfl, nI_ltI (by omega) (by omega)] at a
      rw [show (20 : Int32) = nI 20 from rfl, nI_leI (by omega) (by omega)] at b
      exact hx ⟨k, by omega, by omega, rfl⟩
    refine oX10_change (sX10_change_0 (Q0 := fun _ _ => True) hF.x10 (fun _ => ⟨_, rfl, rfl, hg, rc_out.rfl'⟩) (fun a b => (no a b).elim) (fun a b => (no a b).elim) (fun _ _ => ⟨_, rfl, rfl, hg, rc_out.rfl'⟩))
end PGP
