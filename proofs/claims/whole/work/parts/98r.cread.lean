/-! LINES: the class reads names and numbers -/
theorem rc_R.si {M : pg_M} {tp : List Nat} {z9 : tk_st} {a9 k9 : Nat} {v9 : Int32} (hR : rc_R M tp z9) (ha : 3 ≤ a9) : rc_R (pg_si M a9 k9 v9) tp z9 := hR.fr9 (pg_si_ne (by omega)) (pg_si_ne (by omega)) rfl
theorem rc_R.sj {M : pg_M} {tp : List Nat} {z9 : tk_st} {a9 k9 : Nat} {v9 : Int64} (hR : rc_R M tp z9) (ha : 3 ≤ a9) : rc_R (pg_sj M a9 k9 v9) tp z9 := hR.fr9 rfl rfl (by simp [pg_sj]; omega)
/-- what the reading of a value ends in -/
def rc_v (tp : List Nat) (M : pg_M) (x9 : Except Nat Nat) (k9 : Nat) (v9 : Int32) (M' : pg_M) : Prop := rc_rf M M' ∧ match x9 with
  | .ok n9 => rc_R M' tp (.ok k9) ∧ v9 = nI n9
  | .error e9 => rc_R M' tp (.error e9)
section PGR
variable {S : pg_S} {Λ : pg_L} {d k9 : Nat} {M : pg_M} {tp : List Nat}
theorem rc_numberHere {lo hi : Nat} (hlo : lo < 2 ^ 31) (hhi : hi < 2 ^ 31) (hX : pg_isX7 Λ) (hk : tk_ok tp) (hR : rc_R M tp (.ok k9)) : pg_Ev S Λ YX7_numberHere (d + 1) [.ref 1, .int (nI lo), .int (nI hi)] M (fun r M' => ∃ v, r = some (.int v) ∧ rc_v tp M (rd_num tp lo hi k9) k9 v M') := by
  have s3 := hR.tk.s0 (c9 := 3) hk (by omega)
  have f4 := rc_rfail (S := S) (Λ := Λ) (d := d) (n9 := 4) (by omega) (by omega) hX hk hR
  have f1 := rc_rfail (S := S) (Λ := Λ) (d := d) (n9 := 1) (by omega) (by omega) hX hk hR
  by_cases c3 : (tk_tok tp k9).1 = 3
  · have m3 := s3.mpr c3
    have ev := hR.tk.2.2 c3
    have lt := tk_num_lt c3
    have b1 : (M.1 1 5 < nI lo) ↔ (tk_tok tp k9).2.getD 0 0 < lo := by rw [ev, nI_ltI (by omega) (by omega)]
    have b2 : (M.1 1 5 ≤ nI hi) ↔ (tk_tok tp k9).2.getD 0 0 ≤ hi := by rw [ev, nI_leI (by omega) (by omega)]
    have bad : ¬ (lo ≤ (tk_tok tp k9).2.getD 0 0 ∧ (tk_tok tp k9).2.getD 0 0 ≤ hi) → rd_num tp lo hi k9 = .error (4 + 16 * tk_place tp k9) := fun z9 => by
      unfold rd_num; rw [if_pos c3, if_neg z9]; rfl
    refine oX7_numberHere (sX7_numberHere_0 (Q0 := fun M' => rc_R M' tp (.error (4 + 16 * tk_place tp k9)) ∧ rc_rf M M') (Q1 := fun M' => rc_R M' tp (.error (4 + 16 * tk_place tp k9)) ∧ rc_rf M M') (Q2 := fun _ => True) hX (fun _ _ => f4) ?_ ?_ ?_ ?_ (fun _ _ _ => f4) ?_ ?_ (fun c => absurd m3 c) (fun c => absurd m3 c) (fun c => absurd m3 c))
    · rintro _ q9 Mq1 ⟨g1, g2⟩ _
      rw [b1] at q9
      exact ⟨_, rfl, g2, by rw [bad (by omega)]; exact g1⟩
    · rintro _ q9 Mq1 ⟨g1, g2⟩ c; exact absurd c g1.f1
    · rintro _ _ _ c; exact absurd hR.f0 c
    · rintro _ q9 q8 _
      rw [b1] at q9
      rw [b2] at q8
      refine ⟨_, rfl, rc_rf.rfl', ?_⟩
      unfold rd_num
      rw [if_pos c3, if_pos (by omega)]
      exact ⟨hR, ev⟩
    · rintro _ q9 q8 Mq1 ⟨g1, g2⟩ _
      rw [b1] at q9
      rw [b2] at q8
      exact ⟨_, rfl, g2, by rw [bad (by omega)]; exact g1⟩
    · rintro _ q9 q8 Mq1 ⟨g1, g2⟩ c; exact absurd c g1.f1
  · have m3 : ¬ M.1 1 4 = 3 := fun c => c3 (s3.mp c)
    have bad : rd_num tp lo hi k9 = .error (1 + 16 * tk_place tp k9) := by unfold rd_num; rw [if_neg c3]; rfl
    refine oX7_numberHere (sX7_numberHere_0 (Q0 := fun _ => True) (Q1 := fun _ => True) (Q2 := fun M' => rc_R M' tp (.error (1 + 16 * tk_place tp k9)) ∧ rc_rf M M') hX (fun c => absurd c m3) (fun c => absurd c m3) (fun c => absurd c m3) (fun c => absurd c m3) (fun c => absurd c m3) (fun c => absurd c m3) (fun c => absurd c m3) (fun c => absurd c m3) (fun _ => f1) ?_ ?_)
    · rintro _ Mq1 ⟨g1, g2⟩ _
      exact ⟨_, rfl, g2, by rw [bad]; exact g1⟩
    · rintro _ Mq1 ⟨g1, g2⟩ c; exact absurd c g1.f1
theorem rc_numberHere_e {e9 : Nat} {x9 y9 : Int32} (hX : pg_isX7 Λ) (hk : tk_ok tp) (hR : rc_R M tp (.error e9)) : pg_Ev S Λ YX7_numberHere (d + 1) [.ref 1, .int x9, .int y9] M (fun r M' => ∃ v, r = some (.int v) ∧ (rc_R M' tp (.error e9) ∧ rc_rf M M')) := by
  have f4 := rc_rfail (S := S) (Λ := Λ) (d := d) (n9 := 4) (by omega) (by omega) hX hk hR
  have f1 := rc_rfail (S := S) (Λ := Λ) (d := d) (n9 := 1) (by omega) (by omega) hX hk hR
  exact oX7_numberHere (sX7_numberHere_0 (Q0 := fun M' => rc_R M' tp (.error e9) ∧ rc_rf M M') (Q1 := fun M' => rc_R M' tp (.error e9) ∧ rc_rf M M') (Q2 := fun M' => rc_R M' tp (.error e9) ∧ rc_rf M M') hX (fun _ _ => f4) (fun _ _ Mq1 g9 _ => ⟨_, rfl, g9⟩) (fun _ _ Mq1 g9 _ => ⟨_, rfl, g9⟩) (fun _ _ _ _ => ⟨_, rfl, hR, rc_rf.rfl'⟩) (fun _ _ _ _ => ⟨_, rfl, hR, rc_rf.rfl'⟩) (fun _ _ _ => f4) (fun _ _ _ Mq1 g9 _ => ⟨_, rfl, g9⟩) (fun _ _ _ Mq1 g9 _ => ⟨_, rfl, g9⟩) (fun _ => f1) (fun _ Mq1 g9 _ => ⟨_, rfl, g9⟩) (fun _ Mq1 g9 _ => ⟨_, rfl, g9⟩))
theorem rc_readNumber {lo hi : Nat} (hlo : lo < 2 ^ 31) (hhi : hi < 2 ^ 31) (hX : pg_isX7 Λ) (hk : tk_ok tp) (hR : rc_R M tp (.ok k9)) : pg_Ev S Λ YX7_readNumber (d + 4) [.ref 1, .int (nI lo), .int (nI hi)] M (fun r M' => ∃ v, r = some (.int v) ∧ rc_v tp M (rd_num tp lo hi k9) (k9 + 1) v M') := by
  refine oX7_readNumber (sX7_readNumber_0 (Q0 := fun v M' => rc_v tp M (rd_num tp lo hi k9) k9 v M') (Q1 := fun M' => ∀ v9, (∀ n9, rd_num tp lo hi k9 = .ok n9 → v9 = nI n9) → rc_v tp M (rd_num tp lo hi k9) (k9 + 1) v9 M') hX (pg_Ev.mono (by omega) (rc_numberHere (d := d) hlo hhi hX hk hR)) ?_ ?_)
  · rintro v9 Mq1 ⟨g1, g2⟩
    cases hn : rd_num tp lo hi k9 with
    | error e9 =>
      rw [hn] at g2
      refine pg_Ev.imp ?_ (rc_rnext (S := S) (d := d) hX hk g2)
      rintro q9 M9 ⟨y1, y2, y3⟩
      exact ⟨y1, fun _ _ => ⟨g1.trans y3, y2⟩⟩
    | ok n9 =>
      rw [hn] at g2
      refine pg_Ev.imp ?_ (rc_rnext (S := S) (d := d) hX hk g2.1)
      rintro q9 M9 ⟨y1, y2, y3⟩
      exact ⟨y1, fun w9 hw => ⟨g1.trans y3, y2, hw n9 rfl⟩⟩
  · rintro v9 Mq1 ⟨g1, g2⟩ Mq2 g3
    refine ⟨_, rfl, g3 v9 (fun n9 hn => ?_)⟩
    rw [hn] at g2
    exact g2.2
theorem rc_readNumber_e {e9 : Nat} {x9 y9 : Int32} (hX : pg_isX7 Λ) (hk : tk_ok tp) (hR : rc_R M tp (.error e9)) : pg_Ev S Λ YX7_readNumber (d + 4) [.ref 1, .int x9, .int y9] M (fun r M' => ∃ v, r = some (.int v) ∧ (rc_R M' tp (.error e9) ∧ rc_rf M M')) := by
  refine oX7_readNumber (sX7_readNumber_0 (Q0 := fun v M' => rc_R M' tp (.error e9) ∧ rc_rf M M') (Q1 := fun M' => rc_R M' tp (.error e9) ∧ rc_rf M M') hX (pg_Ev.mono (by omega) (rc_numberHere_e (d := d) hX hk hR)) ?_ ?_)
  · rintro v9 Mq1 ⟨g1, g2⟩
    refine pg_Ev.imp ?_ (rc_rnext (S := S) (d := d) hX hk g1)
    rintro q9 M9 ⟨y1, y2, y3⟩
    exact ⟨y1, y2, g2.trans y3⟩
  · rintro v9 Mq1 _ Mq2 g9
    exact ⟨_, rfl, g9⟩
theorem rc_readMeasure_e {e9 : Nat} {w9 x9 y9 : Int32} (hX : pg_isX7 Λ) (hk : tk_ok tp) (hR : rc_R M tp (.error e9)) : pg_Ev S Λ YX7_readMeasure (d + 5) [.ref 1, .int w9, .int x9, .int y9] M (fun r M' => ∃ v, r = some (.int v) ∧ (rc_R M' tp (.error e9) ∧ rc_rf M M')) := by
  have f1 := rc_rfail (S := S) (Λ := Λ) (d := d + 4) (n9 := 1) (by omega) (by omega) hX hk hR
  have nx : ∀ Mq1, rc_R Mq1 tp (.error e9) ∧ rc_rf M Mq1 → pg_Ev S Λ YX7_next (d + 4) [.ref 1] Mq1 (fun r M' => r = none ∧ (rc_R M' tp (.error e9) ∧ rc_rf M M')) := by
    rintro Mq1 ⟨g1, g2⟩
    refine pg_Ev.imp ?_ (rc_rnext (S := S) (d := d + 1) hX hk g1)
    rintro q9 M9 ⟨y1, y2, y3⟩
    exact ⟨y1, y2, g2.trans y3⟩
  have nu : ∀ Mq1, rc_R Mq1 tp (.error e9) ∧ rc_rf M Mq1 → pg_Ev S Λ YX7_readNumber (d + 4) [.ref 1, .int x9, .int y9] Mq1 (fun r M' => ∃ v, r = some (.int v) ∧ (rc_R M' tp (.error e9) ∧ rc_rf M M')) := by
    rintro Mq1 ⟨g1, g2⟩
    refine pg_Ev.imp ?_ (rc_readNumber_e (S := S) (d := d) hX hk g1)
    rintro q9 M9 ⟨v9, y1, y2, y3⟩
    exact ⟨v9, y1, y2, g2.trans y3⟩
  have sf : rc_R M tp (.error e9) ∧ rc_rf M M := ⟨hR, rc_rf.rfl'⟩
  exact oX7_readMeasure (sX7_readMeasure_0 (Q0 := fun M' => rc_R M' tp (.error e9) ∧ rc_rf M M') (Q1 := fun M' => rc_R M' tp (.error e9) ∧ rc_rf M M') (Q2 := fun _ M' => rc_R M' tp (.error e9) ∧ rc_rf M M') (Q3 := fun M' => rc_R M' tp (.error e9) ∧ rc_rf M M') (Q4 := fun _ M' => rc_R M' tp (.error e9) ∧ rc_rf M M') (Q5 := fun M' => rc_R M' tp (.error e9) ∧ rc_rf M M') (Q6 := fun M' => rc_R M' tp (.error e9) ∧ rc_rf M M') (Q7 := fun _ M' => rc_R M' tp (.error e9) ∧ rc_rf M M') hX (fun _ => f1) (fun _ Mq1 g9 => nx Mq1 g9) (fun _ _ _ Mq2 g9 => nu Mq2 g9) (fun _ _ _ _ _ v9 Mq3 g9 => ⟨_, rfl, g9⟩) (fun _ _ => nx M sf) (fun _ _ Mq1 g9 => nu Mq1 g9) (fun _ _ _ _ v9 Mq2 g9 => ⟨_, rfl, g9⟩) (fun _ _ => f1) (fun _ _ Mq1 g9 => nx Mq1 g9) (fun _ _ _ _ Mq2 g9 => nu Mq2 g9) (fun _ _ _ _ _ _ v9 Mq3 g9 => ⟨_, rfl, g9⟩))
theorem rc_readMeasure {w9 lo hi : Nat} (hw : w9 < 26) (hlo : lo < 2 ^ 31) (hhi : hi < 2 ^ 31) (hX : pg_isX7 Λ) (hk : tk_ok tp) (hR : rc_R M tp (.ok k9)) : pg_Ev S Λ YX7_readMeasure (d + 5) [.ref 1, .int (nI w9), .int (nI lo), .int (nI hi)] M (fun r M' => ∃ v, r = some (.int v) ∧ rc_v tp M (rd_meas tp w9 lo hi k9) (k9 + 2) v M') := by
  have s2 := hR.tk.s0 (c9 := 2) hk (by omega)
  by_cases c1 : tk_wd (tk_tok tp k9) = some w9
  · have t2 := tk_wd_2 c1
    have m2 := s2.mpr t2
    have mw := (hR.tk.wj t2 hw).mpr c1
    have em : rd_meas tp w9 lo hi k9 = rd_num tp lo hi (k9 + 1) := by unfold rd_meas; rw [if_pos c1]
    rw [em]
    refine oX7_readMeasure (sX7_readMeasure_0 (Q0 := fun _ => True) (Q1 := fun _ => True) (Q2 := fun _ _ => True) (Q3 := fun M' => rc_R M' tp (.ok (k9 + 1)) ∧ rc_rf M M') (Q4 := fun v M' => rc_v tp M (rd_num tp lo hi (k9 + 1)) (k9 + 2) v M') (Q5 := fun _ => True) (Q6 := fun _ => True) (Q7 := fun _ _ => True) hX (fun c => absurd m2 c) (fun c => absurd m2 c) (fun c => absurd m2 c) (fun c => absurd m2 c) (fun _ _ => pg_Ev.mono (by omega) (rc_rnext (S := S) (d := d) hX hk hR)) ?_ (fun _ _ _ _ v9 Mq2 g9 => ⟨_, rfl, g9⟩) (fun _ c => absurd mw c) (fun _ c => absurd mw c) (fun _ c => absurd mw c) (fun _ c => absurd mw c))
    rintro _ _ Mq1 ⟨g1, g2⟩
    refine pg_Ev.imp ?_ (rc_readNumber (S := S) (d := d) hlo hhi hX hk g1)
    rintro q9 M9 ⟨v9, y1, y2, y3⟩
    exact ⟨v9, y1, g2.trans y2, y3⟩
  · have em : rd_meas tp w9 lo hi k9 = .error (1 + 16 * tk_place tp k9) := by unfold rd_meas; rw [if_neg c1]; rfl
    rw [em]
    have f1 := rc_rfail (S := S) (Λ := Λ) (d := d + 4) (n9 := 1) (by omega) (by omega) hX hk hR
    have nx : ∀ Mq1, rc_R Mq1 tp (.error (1 + 16 * tk_place tp k9)) ∧ rc_rf M Mq1 → pg_Ev S Λ YX7_next (d + 4) [.ref 1] Mq1 (fun r M' => r = none ∧ (rc_R M' tp (.error (1 + 16 * tk_place tp k9)) ∧ rc_rf M M')) := by
      rintro Mq1 ⟨g1, g2⟩
      refine pg_Ev.imp ?_ (rc_rnext (S := S) (d := d + 1) hX hk g1)
      rintro q9 M9 ⟨y1, y2, y3⟩
      exact ⟨y1, y2, g2.trans y3⟩
    have nu : ∀ Mq1, rc_R Mq1 tp (.error (1 + 16 * tk_place tp k9)) ∧ rc_rf M Mq1 → pg_Ev S Λ YX7_readNumber (d + 4) [.ref 1, .int (nI lo), .int (nI hi)] Mq1 (fun r M' => ∃ v, r = some (.int v) ∧ (rc_R M' tp (.error (1 + 16 * tk_place tp k9)) ∧ rc_rf M M')) := by
      rintro Mq1 ⟨g1, g2⟩
      refine pg_Ev.imp ?_ (rc_readNumber_e (S := S) (d := d) hX hk g1)
      rintro q9 M9 ⟨v9, y1, y2, y3⟩
      exact ⟨v9, y1, y2, g2.trans y3⟩
    have bad2 : M.1 1 4 = 2 → ¬ M.1 1 7 = nI w9 := fun c c2 => c1 ((hR.tk.wj (s2.mp c) hw).mp c2)
    exact oX7_readMeasure (sX7_readMeasure_0 (Q0 := fun M' => rc_R M' tp (.error (1 + 16 * tk_place tp k9)) ∧ rc_rf M M') (Q1 := fun M' => rc_R M' tp (.error (1 + 16 * tk_place tp k9)) ∧ rc_rf M M') (Q2 := fun _ M' => rc_R M' tp (.error (1 + 16 * tk_place tp k9)) ∧ rc_rf M M') (Q3 := fun _ => True) (Q4 := fun _ _ => True) (Q5 := fun M' => rc_R M' tp (.error (1 + 16 * tk_place tp k9)) ∧ rc_rf M M') (Q6 := fun M' => rc_R M' tp (.error (1 + 16 * tk_place tp k9)) ∧ rc_rf M M') (Q7 := fun _ M' => rc_R M' tp (.error (1 + 16 * tk_place tp k9)) ∧ rc_rf M M') hX (fun _ => f1) (fun _ Mq1 g9 => nx Mq1 g9) (fun _ _ _ Mq2 g9 => nu Mq2 g9) (fun _ _ _ _ _ v9 Mq3 g9 => ⟨_, rfl, g9.2, g9.1⟩) (fun c c2 => absurd c2 (bad2 c)) (fun c c2 => absurd c2 (bad2 c)) (fun c c2 => absurd c2 (bad2 c)) (fun _ _ => f1) (fun _ _ Mq1 g9 => nx Mq1 g9) (fun _ _ _ _ Mq2 g9 => nu Mq2 g9) (fun _ _ _ _ _ _ v9 Mq3 g9 => ⟨_, rfl, g9.2, g9.1⟩))
theorem rc_isName (hX : pg_isX7 Λ) (hk : tk_ok tp) (hR : rc_R M tp (.ok k9)) : pg_Ev S Λ YX7_isName d [.ref 1] M (fun r M' => ∃ v, r = some (.int v) ∧ (v = b2i (rd_nm tp k9) ∧ M' = M)) := by
  have s2 := hR.tk.s0 (c9 := 2) hk (by omega)
  refine oX7_isName (sX7_isName_0 hX (fun q9 => ⟨_, rfl, ?_, rfl⟩) (fun q9 q8 => ⟨_, rfl, ?_, rfl⟩) (fun q9 q8 q7 => ⟨_, rfl, ?_, rfl⟩) (fun q9 q8 q7 => ⟨_, rfl, ?_, rfl⟩))
  · have : ¬ (tk_tok tp k9).1 = 2 := fun c => q9 (s2.mpr c)
    unfold rd_nm
    rw [decide_eq_false this]; rfl
  all_goals
    have t2 := s2.mp q9
    have mw := hR.tk.w t2
    unfold rd_nm
    rw [decide_eq_true t2]
    cases hw : tk_wd (tk_tok tp k9) with
    | none =>
      rw [hw] at mw
      first
        | rfl
        | exact absurd mw q8
    | some j9 =>
      rw [hw] at mw
      have mw : M.1 1 7 = nI j9 := mw
      have jl := tk_wd_lt hw
      first
        | (rw [mw] at q8
           have hp := nI_pos (n := j9) (by omega)
           rw [q8] at hp
           exact absurd hp (by decide))
        | (rw [mw, show (23 : Int32) = nI 23 from rfl, nI_ltI (by omega) (by decide)] at q7
           show _ = b2i (true && decide (23 ≤ j9))
           first
             | (rw [decide_eq_false (show ¬ 23 ≤ j9 by omega)]; rfl)
             | (rw [decide_eq_true (show 23 ≤ j9 by omega)]; rfl))
/-- the cloth of a name, or none -/
def rd_fi (o9 : Option Nat) : Int32 := match o9 with
  | none => -1
  | some c9 => nI c9
theorem rc_clothNamed {l9 n9 : Nat} {nm : Nat → List Nat} {w9 : List Nat} (h5 : pg_isX5 Λ l9) (hn : M.1 l9 10 = nI n9) (h6 : n9 ≤ 6) (hN : rc_N M l9 n9 nm) (hg : ∀ c9, c9 < n9 → tk_good (nm c9)) (hw : tk_good w9) : pg_Ev S Λ YX5_clothNamed d [.ref l9, .long (lN (sp_w 32 w9))] M (fun r M' => ∃ v, r = some (.int v) ∧ (v = rd_fi (rd_find nm n9 w9) ∧ M' = M)) := by
  refine oX5_clothNamed (sX5_clothNamed_0 ?_)
  have key : ∀ i9, i9 ≤ n9 → (∀ j9, j9 < i9 → nm j9 ≠ w9) → rd_find nm n9 w9 = ((List.range' i9 (n9 - i9)).find? (fun c9 => decide (nm c9 = w9))) := by
    intro i9 hi hj
    unfold rd_find
    have : List.range n9 = List.range i9 ++ List.range' i9 (n9 - i9) := by
      have z8 := List.range'_append_1 (s := 0) (m := i9) (n := n9 - i9)
      rw [show i9 + (n9 - i9) = n9 by omega, Nat.zero_add] at z8
      rw [List.range_eq_range', List.range_eq_range']
      exact z8.symm
    rw [this, List.find?_append]
    have z9 : (List.range i9).find? (fun c9 => decide (nm c9 = w9)) = none := List.find?_eq_none.mpr (fun x9 hx => by
      have := hj x9 (List.mem_range.mp hx)
      simpa using this)
    rw [z9]; rfl
  refine pg_loop (σ := Unit) (fun i9 _ => pg_At S Λ YX5_clothNamed d 2 [(0, .ref l9), (1, .long (lN (sp_w 32 w9))), (3, .int (nI i9))] [] M _) (fun i9 _ => ∀ j9, j9 < i9 → nm j9 ≠ w9) n9 ?_ ?_ 0 () (Nat.zero_le _) (fun j9 hj => absurd hj (by omega))
  · rintro _ hj
    have cq : M.1 l9 10 ≤ nI n9 := by rw [hn]; exact nI_le (Nat.le_refl _) (by omega)
    refine sX5_clothNamed_2 h5 (fun _ => ⟨_, rfl, ?_, rfl⟩) (fun c => absurd cq c) (fun c => absurd cq c) (fun c => absurd cq c)
    rw [key n9 (Nat.le_refl _) hj, Nat.sub_self]; rfl
  · rintro i9 _ hi hj ihq
    have cq : ¬ M.1 l9 10 ≤ nI i9 := by rw [hn]; exact nI_ge hi (by omega)
    have hcl : (nI i9).toNatClampNeg = i9 := nI_clamp (by omega)
    refine sX5_clothNamed_2 h5 (fun c => absurd c cq) (fun _ => vp_in_nI (by omega) (by decide)) (fun _ q9 => ?_) (fun _ q9 => ⟨_, rfl, ?_, rfl⟩)
    · rw [hcl, lg_cmp_eq, hN i9 hi, tk_code (hg i9 hi) hw] at q9
      rw [nI_1]
      exact ihq () (fun j9 hj9 => by
        by_cases z9 : j9 = i9
        · rw [z9]; exact q9
        · exact hj j9 (by omega))
    · rw [hcl, lg_cmp_eq, hN i9 hi, tk_code (hg i9 hi) hw] at q9
      rw [key i9 (by omega) hj, show n9 - i9 = (n9 - i9 - 1) + 1 by omega, List.range'_succ, List.find?_cons, decide_eq_true q9]
      rfl
end PGR
