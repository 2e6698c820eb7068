/-! DAYS: the specification; the class reads pegs -/
def rd_pegs (tp : List Nat) : Nat → Nat → Nat → Nat → Except Nat (Nat × Nat)
  | 0, k9, _, s9 => .ok (k9, s9)
  | f9 + 1, k9, n9, s9 => if n9 = 0 ∨ (tk_tok tp k9).1 = 3 then rd_b (rd_num tp 0 7 k9) (fun v9 => if s9.testBit v9 = true then rd_e tp 3 k9 else if n9 = 4 then rd_e tp 5 k9 else rd_pegs tp f9 (k9 + 1) (n9 + 1) (s9 ||| 2 ^ v9)) else .ok (k9, s9)
/-- one deed: what it is, of which cloth or by which grip, by which pegs -/
def rd_deed (tp : List Nat) (nm : Nat → List Nat) (n9 k9 w9 : Nat) : Except Nat (Nat × Nat × Nat × Nat) :=
  if w9 = 0 then rd_b (rd_told tp nm n9 (k9 + 1)) (fun c9 => rd_b (rd_pegs tp 6 (k9 + 2) 0 0) (fun r9 => .ok (r9.1, 0, c9, r9.2)))
  else if w9 < 3 then rd_b (rd_told tp nm n9 (k9 + 1)) (fun c9 => .ok (k9 + 2, w9, c9, 0))
  else if w9 = 3 then rd_b (rd_num tp 1 9 (k9 + 1)) (fun v9 => .ok (k9 + 2, 3, v9, 0))
  else .ok (k9 + 1, 4, 0, 0)
def rd_done (tp : List Nat) (nm : Nat → List Nat) (n9 k9 : Nat) (pl : List (Nat × Nat × Nat)) : Except Nat (Nat × List (Nat × Nat × Nat)) := match tk_wd (tk_tok tp k9) with
  | none => rd_e tp 1 k9
  | some j9 => if 11 ≤ j9 ∧ j9 ≤ 15 then (if pl.length = 30 then rd_e tp 5 k9 else rd_b (rd_deed tp nm n9 k9 (j9 - 11)) (fun r9 => if tk_tok tp r9.1 = (4, [59]) then .ok (r9.1 + 1, pl ++ [r9.2]) else rd_e tp 1 r9.1)) else rd_e tp 1 k9
def rd_dones (tp : List Nat) (nm : Nat → List Nat) (n9 : Nat) : Nat → Nat → List (Nat × Nat × Nat) → Except Nat (List (Nat × Nat × Nat))
  | 0, _, pl => .ok pl
  | f9 + 1, k9, pl => if (tk_tok tp k9).1 = 0 then .ok pl else rd_b (rd_done tp nm n9 k9 pl) (fun r9 => rd_dones tp nm n9 f9 r9.1 r9.2)
def rd_day (tp : List Nat) (nm : Nat → List Nat) (n9 : Nat) : Except Nat (List (Nat × Nat × Nat)) := rd_dones tp nm n9 (tp.length + 1) 0 []
def sp_qday (G : sp_G) : Int32 × sp_G := match rd_day G.tp G.nm (G.L 4 0) with
  | .error e9 => (nI e9, G.tape [])
  | .ok pl => (0, G.plan pl [])
theorem rd_pegs_ok {tp : List Nat} : ∀ f9 k9 n9 s9 r9, rd_pegs tp f9 k9 n9 s9 = .ok r9 → 5 < f9 + n9 → n9 ≤ 4 → s9 < 256 → (n9 ≠ 0 → s9 ≠ 0) → k9 ≤ tp.length → k9 ≤ r9.1 ∧ r9.1 ≤ tp.length ∧ 0 < r9.2 ∧ r9.2 < 256 := by
  intro f9
  induction f9 with
  | zero => intro k9 n9 s9 r9 _ h1 h2; omega
  | succ f9 ih9 =>
    intro k9 n9 s9 r9 hh h1 h2 h3 h4 h5
    simp only [rd_pegs] at hh
    split at hh
    · obtain ⟨v9, hv, hh⟩ := rd_b_inv hh
      have nv := rd_num_ok hv
      split at hh
      · cases hh
      split at hh
      · cases hh
      rename_i c4
      have lt : s9 ||| 2 ^ v9 < 256 := Nat.or_lt_two_pow (n := 8) h3 (Nat.pow_lt_pow_right (by decide) (by omega))
      have nz : s9 ||| 2 ^ v9 ≠ 0 := fun c => by
        have : (s9 ||| 2 ^ v9).testBit v9 = true := by rw [Nat.testBit_or, Nat.testBit_two_pow_self, Bool.or_true]
        rw [c] at this
        simp at this
      obtain ⟨a1, a2, a3, a4⟩ := ih9 _ _ _ _ hh (by omega) (by omega) lt (fun _ => nz) (by omega)
      exact ⟨by omega, a2, a3, a4⟩
    · rename_i c9
      injection hh with hh
      subst hh
      have : n9 ≠ 0 := fun z9 => c9 (Or.inl z9)
      have := h4 this
      exact ⟨Nat.le_refl _, h5, by show 0 < s9; omega, h3⟩
theorem rd_deed_ok {tp : List Nat} {nm : Nat → List Nat} {L9 : sp_N} {k9 w9 : Nat} {r9 : Nat × Nat × Nat × Nat} (kl : k9 < tp.length) (hw : w9 < 5) (hh : rd_deed tp nm (L9 4 0) k9 w9 = .ok r9) : sp_okP L9 r9.2 ∧ k9 < r9.1 ∧ r9.1 ≤ tp.length ∧ r9.2.1 = w9 := by
  unfold rd_deed at hh
  split at hh
  · rename_i c9
    obtain ⟨a9, ha, hh⟩ := rd_b_inv hh
    obtain ⟨b9, hb, hh⟩ := rd_b_inv hh
    injection hh with hh
    subst hh
    have na := rd_told_ok ha
    obtain ⟨a1, a2, a3, a4⟩ := rd_pegs_ok _ _ _ _ _ hb (by omega) (by omega) (by omega) (fun c => absurd rfl c) (by omega)
    exact ⟨⟨by show 0 < 5; omega, fun _ => ⟨a3, a4⟩, fun _ => na.1, fun c => absurd c (by simp)⟩, by show k9 < b9.1; omega, a2, c9.symm⟩
  split at hh
  · rename_i c0 c9
    obtain ⟨a9, ha, hh⟩ := rd_b_inv hh
    injection hh with hh
    subst hh
    have na := rd_told_ok ha
    exact ⟨⟨hw, fun c => absurd c c0, fun _ => na.1, fun c => absurd c (by show ¬ w9 = 3; omega)⟩, by show k9 < k9 + 2; omega, by show k9 + 2 ≤ tp.length; omega, rfl⟩
  split at hh
  · rename_i c0 c9 c3
    obtain ⟨a9, ha, hh⟩ := rd_b_inv hh
    injection hh with hh
    subst hh
    have na := rd_num_ok ha
    exact ⟨⟨by show 3 < 5; omega, fun c => absurd c (by simp), fun c => absurd c (by show ¬ 3 < 3; omega), fun _ => ⟨na.1, na.2.1⟩⟩, by show k9 < k9 + 2; omega, by show k9 + 2 ≤ tp.length; omega, c3.symm⟩
  · injection hh with hh
    subst hh
    exact ⟨⟨by show 4 < 5; omega, fun c => absurd c (by simp), fun c => absurd c (by show ¬ 4 < 3; omega), fun c => absurd c (by simp)⟩, by show k9 < k9 + 1; omega, by show k9 + 1 ≤ tp.length; omega, by show 4 = w9; omega⟩
theorem rd_done_ok {tp : List Nat} {nm : Nat → List Nat} {L9 : sp_N} {k9 : Nat} {pl : List (Nat × Nat × Nat)} {r9 : Nat × List (Nat × Nat × Nat)} (hp : pl.length ≤ 30 ∧ ∀ e9, e9 ∈ pl → sp_okP L9 e9) (hh : rd_done tp nm (L9 4 0) k9 pl = .ok r9) : (r9.2.length ≤ 30 ∧ ∀ e9, e9 ∈ r9.2 → sp_okP L9 e9) ∧ k9 < r9.1 ∧ r9.1 ≤ tp.length := by
  unfold rd_done at hh
  cases hw : tk_wd (tk_tok tp k9) with
  | none => rw [hw] at hh; cases hh
  | some j9 =>
    have kl : k9 < tp.length := tk_in (by rw [tk_wd_2 hw]; decide)
    rw [hw] at hh
    simp only at hh
    split at hh
    · split at hh
      · cases hh
      · obtain ⟨a9, ha, hh⟩ := rd_b_inv hh
        obtain ⟨b1, b2, b3, b4⟩ := rd_deed_ok kl (by omega) ha
        split at hh
        · rename_i c9
          injection hh with hh
          subst hh
          have : a9.1 + 1 ≤ tp.length := tk_in (by rw [c9]; simp)
          refine ⟨⟨by simp; omega, fun e9 he => ?_⟩, by show k9 < a9.1 + 1; omega, this⟩
          simp only [List.mem_append, List.mem_singleton] at he
          rcases he with he | he
          · exact hp.2 e9 he
          · rw [he]; exact b1
        · cases hh
    · cases hh
theorem rd_dones_ok {tp : List Nat} {nm : Nat → List Nat} {L9 : sp_N} : ∀ f9 k9 pl Y9, (pl.length ≤ 30 ∧ ∀ e9, e9 ∈ pl → sp_okP L9 e9) → rd_dones tp nm (L9 4 0) f9 k9 pl = .ok Y9 → Y9.length ≤ 30 ∧ ∀ e9, e9 ∈ Y9 → sp_okP L9 e9 := by
  intro f9
  induction f9 with
  | zero => intro k9 X9 Y9 ho hh; injection hh with hh; subst hh; exact ho
  | succ f9 ih9 =>
    intro k9 X9 Y9 ho hh
    simp only [rd_dones] at hh
    split at hh
    · injection hh with hh; subst hh; exact ho
    · obtain ⟨r9, hr, hh⟩ := rd_b_inv hh
      exact ih9 _ _ _ (rd_done_ok ho hr).1 hh
section PGR
variable {S : pg_S} {Λ : pg_L} {d k9 : Nat} {M : pg_M} {tp : List Nat}
def rc_pp (tp : List Nat) (M : pg_M) (x9 : Except Nat (Nat × Nat)) (v9 : Int32) (M' : pg_M) : Prop := rc_rf M M' ∧ match x9 with
  | .error e9 => rc_R M' tp (.error e9)
  | .ok y9 => rc_R M' tp (.ok y9.1) ∧ v9 = nI y9.2
theorem rc_readPegs4 (hX : pg_isX7 Λ) (hk : tk_ok tp) : ∀ f9 k9 n9 s9 Mq, n9 ≤ 4 → 5 < f9 + n9 → s9 < 256 → rc_R Mq tp (.ok k9) → rc_rf M Mq → pg_At S Λ YX7_readPegs (d + 4) 4 [(0, .ref 1), (1, .int (nI s9)), (2, .int (nI n9))] [] Mq (fun q M' => ∃ v, q = some (.int v) ∧ rc_pp tp M (rd_pegs tp f9 k9 n9 s9) v M') := by
  intro f9
  induction f9 with
  | zero => intro k9 n9 s9 Mq h1 h2; omega
  | succ f9 ih9 =>
    intro k9 n9 s9 Mq h1 h2 h3 hR hf
    have cb : ¬ (4 : Int32) < nI n9 := by
      rw [show (4 : Int32) = nI 4 from rfl, nI_ltI (by decide) (by omega)]; omega
    have s3 := hR.tk.s0 (c9 := 3) hk (by omega)
    have i0 : (nI n9 = 0) ↔ n9 = 0 := by rw [← nI_0, nI_eq (by omega) (by decide)]
    have i4 : (nI n9 = 4) ↔ n9 = 4 := by rw [show (4 : Int32) = nI 4 from rfl, nI_eq (by omega) (by decide)]
    have go : (n9 = 0 ∨ (tk_tok tp k9).1 = 3) → pg_At S Λ YX7_readPegs (d + 4) 28 [(0, .ref 1), (1, .int (nI s9)), (2, .int (nI n9))] [] Mq (fun q M' => ∃ v, q = some (.int v) ∧ rc_pp tp M (rd_pegs tp (f9 + 1) k9 n9 s9) v M') := by
      intro c9
      have nh := pg_Ev.mono (d' := d + 3) (by omega) (rc_numberHere (S := S) (Λ := Λ) (d := d) (lo := 0) (hi := 7) (by omega) (by omega) hX hk hR)
      have erl : ∀ e9 (Mq2 : pg_M) (v4 v5 : Int32), rc_R Mq2 tp (.error e9) → rc_rf M Mq2 → rd_pegs tp (f9 + 1) k9 n9 s9 = .error e9 → pg_At S Λ YX7_readPegs (d + 4) 4 [(0, .ref 1), (1, .int v4), (2, .int v5)] [] Mq2 (fun q M' => ∃ v, q = some (.int v) ∧ rc_pp tp M (rd_pegs tp (f9 + 1) k9 n9 s9) v M') := fun e9 Mq2 v4 v5 g1 g2 he => by
        rw [he]
        have fin9 : ∃ v, (some (Value.int v4)) = some (.int v) ∧ rc_pp tp M (.error e9) v Mq2 := ⟨_, rfl, g2, g1⟩
        exact sX7_readPegs_4 hX (fun _ => fin9) (fun _ _ => fin9) (fun _ c => absurd c g1.f1) (fun _ c => absurd c g1.f1) (fun _ c => absurd c g1.f1)
      have nxe : ∀ e9 Mq2, rc_R Mq2 tp (.error e9) ∧ rc_rf M Mq2 → pg_Ev S Λ YX7_next (d + 3) [.ref 1] Mq2 (fun r M' => r = none ∧ (rc_R M' tp (.error e9) ∧ rc_rf M M')) := by
        rintro e9 Mq2 ⟨g1, g2⟩
        refine pg_Ev.imp ?_ (rc_rnext (S := S) (d := d) hX hk g1)
        rintro q9 M9 ⟨y1, y2, y3⟩
        exact ⟨y1, y2, g2.trans y3⟩
      have fe : ∀ m9 z9 Mq2, 0 < m9 → m9 < 16 → rc_R Mq2 tp z9 ∧ rc_rf M Mq2 → pg_Ev S Λ YX7_fail (d + 3) [.ref 1, .int (nI m9)] Mq2 (fun r M' => r = none ∧ (rc_R M' tp (tk_fail tp m9 z9) ∧ rc_rf M M')) := by
        rintro m9 z9 Mq2 h0 hm ⟨g1, g2⟩
        refine pg_Ev.imp ?_ (rc_rfail (S := S) (d := d + 3) (n9 := m9) h0 hm hX hk g1)
        rintro q9 M9 ⟨y1, y2, y3⟩
        exact ⟨y1, y2, g2.trans y3⟩
      cases hn : rd_num tp 0 7 k9 with
      | error e9 =>
        rw [hn] at nh
        have he : rd_pegs tp (f9 + 1) k9 n9 s9 = .error e9 := by
          simp only [rd_pegs]
          rw [if_pos c9, hn, rd_b_er]
        exact sX7_readPegs_28 (Q0 := fun v M' => rc_v tp Mq (.error e9) k9 v M') (Q1 := fun M' => rc_R M' tp (.error e9) ∧ rc_rf M M') (Q2 := fun M' => rc_R M' tp (.error e9) ∧ rc_rf M M') (Q3 := fun M' => rc_R M' tp (.error e9) ∧ rc_rf M M') (Q4 := fun _ => True) (Q5 := fun _ => True) (Q6 := fun _ => True) (Q7 := fun _ => True) (Q8 := fun _ => True) (Q9 := fun _ => True) (Q10 := fun _ => True) hX nh (fun v9 Mq2 g9 _ _ => nxe e9 Mq2 ⟨g9.2, hf.trans g9.1⟩) (fun v9 Mq2 _ _ _ Mq3 g9 => erl e9 Mq3 _ _ g9.1 g9.2 he) (fun v9 Mq2 g9 _ _ => fe 5 (.error e9) Mq2 (by omega) (by omega) ⟨g9.2, hf.trans g9.1⟩) (fun v9 Mq2 _ _ _ Mq3 g9 => nxe e9 Mq3 g9) (fun v9 Mq2 _ _ _ Mq3 _ Mq4 g9 => erl e9 Mq4 _ _ g9.1 g9.2 he) (fun v9 Mq2 g9 c => absurd c g9.2.f1) (fun v9 Mq2 g9 c => absurd c g9.2.f1) (fun v9 Mq2 g9 c => absurd c g9.2.f1) (fun v9 Mq2 g9 c => absurd c g9.2.f1) (fun v9 Mq2 g9 c => absurd c g9.2.f1) (fun v9 Mq2 g9 c => absurd c g9.2.f1) (fun v9 Mq2 g9 c => absurd c g9.2.f1) (fun v9 Mq2 g9 c => absurd c g9.2.f1) (fun v9 Mq2 g9 c => absurd c g9.2.f1) (fun v9 Mq2 g9 c => absurd c g9.2.f1) (fun v9 Mq2 g9 c => absurd c g9.2.f1)
      | ok m9 =>
        rw [hn] at nh
        have nv := rd_num_ok hn
        have ib : ∀ (v9 : Int32) Mq2, rc_v tp Mq (.ok m9) k9 v9 Mq2 → ((((nI s9) >>> (v9 &&& 31)) &&& 1) = 0 ↔ s9.testBit m9 = false) := fun v9 Mq2 g9 => by rw [g9.2.2, nb_bit (by omega) (by omega)]
        by_cases ht : s9.testBit m9 = true
        · have he : rd_pegs tp (f9 + 1) k9 n9 s9 = .error (3 + 16 * tk_place tp k9) := by
            simp only [rd_pegs]
            rw [if_pos c9, hn, rd_b_ok, if_pos ht]; rfl
          have nb : ∀ (v9 : Int32) Mq2, rc_v tp Mq (.ok m9) k9 v9 Mq2 → ¬ ((((nI s9) >>> (v9 &&& 31)) &&& 1) = 0) := fun v9 Mq2 g9 => by rw [ib v9 Mq2 g9, ht]; decide
          exact sX7_readPegs_28 (Q0 := fun v M' => rc_v tp Mq (.ok m9) k9 v M') (Q1 := fun _ => True) (Q2 := fun _ => True) (Q3 := fun _ => True) (Q4 := fun _ => True) (Q5 := fun _ => True) (Q6 := fun _ => True) (Q7 := fun M' => rc_R M' tp (.error (3 + 16 * tk_place tp k9)) ∧ rc_rf M M') (Q8 := fun M' => rc_R M' tp (.error (3 + 16 * tk_place tp k9)) ∧ rc_rf M M') (Q9 := fun M' => rc_R M' tp (.error (3 + 16 * tk_place tp k9)) ∧ rc_rf M M') (Q10 := fun M' => rc_R M' tp (.error (3 + 16 * tk_place tp k9)) ∧ rc_rf M M') hX nh (fun v9 Mq2 g9 c => absurd g9.2.1.f0 c) (fun v9 Mq2 g9 c => absurd g9.2.1.f0 c) (fun v9 Mq2 g9 c => absurd g9.2.1.f0 c) (fun v9 Mq2 g9 c => absurd g9.2.1.f0 c) (fun v9 Mq2 g9 c => absurd g9.2.1.f0 c) (fun v9 Mq2 g9 _ c => absurd c (nb v9 Mq2 g9)) (fun v9 Mq2 g9 _ c => absurd c (nb v9 Mq2 g9)) (fun v9 Mq2 g9 _ c => absurd c (nb v9 Mq2 g9)) (fun v9 Mq2 g9 _ c => absurd c (nb v9 Mq2 g9)) (fun v9 Mq2 g9 _ c => absurd c (nb v9 Mq2 g9)) (fun v9 Mq2 g9 _ _ => fe 3 (.ok k9) Mq2 (by omega) (by omega) ⟨g9.2.1, hf.trans g9.1⟩) (fun v9 Mq2 _ _ _ Mq3 g9 _ => nxe _ Mq3 g9) (fun v9 Mq2 _ _ _ Mq3 _ _ Mq4 g9 => erl _ Mq4 _ _ g9.1 g9.2 he) (fun v9 Mq2 _ _ _ Mq3 g9 _ => fe 5 (.error (3 + 16 * tk_place tp k9)) Mq3 (by omega) (by omega) g9) (fun v9 Mq2 _ _ _ Mq3 _ _ Mq4 g9 => nxe _ Mq4 g9) (fun v9 Mq2 _ _ _ Mq3 _ _ Mq4 _ Mq5 g9 => erl _ Mq5 _ _ g9.1 g9.2 he)
        · rw [Bool.not_eq_true] at ht
          have yb : ∀ (v9 : Int32) Mq2, rc_v tp Mq (.ok m9) k9 v9 Mq2 → ((((nI s9) >>> (v9 &&& 31)) &&& 1) = 0) := fun v9 Mq2 g9 => (ib v9 Mq2 g9).mpr ht
          by_cases c4 : n9 = 4
          · have q4 := i4.mpr c4
            have he : rd_pegs tp (f9 + 1) k9 n9 s9 = .error (5 + 16 * tk_place tp k9) := by
              simp only [rd_pegs]
              rw [if_pos c9, hn, rd_b_ok, if_neg (by rw [ht]; decide), if_pos c4]; rfl
            exact sX7_readPegs_28 (Q0 := fun v M' => rc_v tp Mq (.ok m9) k9 v M') (Q1 := fun _ => True) (Q2 := fun _ => True) (Q3 := fun _ => True) (Q4 := fun _ => True) (Q5 := fun M' => rc_R M' tp (.error (5 + 16 * tk_place tp k9)) ∧ rc_rf M M') (Q6 := fun M' => rc_R M' tp (.error (5 + 16 * tk_place tp k9)) ∧ rc_rf M M') (Q7 := fun _ => True) (Q8 := fun _ => True) (Q9 := fun _ => True) (Q10 := fun _ => True) hX nh (fun v9 Mq2 g9 c => absurd g9.2.1.f0 c) (fun v9 Mq2 g9 c => absurd g9.2.1.f0 c) (fun v9 Mq2 g9 c => absurd g9.2.1.f0 c) (fun v9 Mq2 g9 c => absurd g9.2.1.f0 c) (fun v9 Mq2 g9 c => absurd g9.2.1.f0 c) (fun v9 Mq2 _ _ _ c => absurd q4 c) (fun v9 Mq2 _ _ _ c => absurd q4 c) (fun v9 Mq2 g9 _ _ _ => fe 5 (.ok k9) Mq2 (by omega) (by omega) ⟨g9.2.1, hf.trans g9.1⟩) (fun v9 Mq2 _ _ _ _ Mq3 g9 => nxe _ Mq3 g9) (fun v9 Mq2 _ _ _ _ Mq3 _ Mq4 g9 => erl _ Mq4 _ _ g9.1 g9.2 he) (fun v9 Mq2 g9 _ c => absurd (yb v9 Mq2 g9) c) (fun v9 Mq2 g9 _ c => absurd (yb v9 Mq2 g9) c) (fun v9 Mq2 g9 _ c => absurd (yb v9 Mq2 g9) c) (fun v9 Mq2 g9 _ c => absurd (yb v9 Mq2 g9) c) (fun v9 Mq2 g9 _ c => absurd (yb v9 Mq2 g9) c) (fun v9 Mq2 g9 _ c => absurd (yb v9 Mq2 g9) c)
          · have n4 : ¬ nI n9 = 4 := fun c => c4 (i4.mp c)
            have he : rd_pegs tp (f9 + 1) k9 n9 s9 = rd_pegs tp f9 (k9 + 1) (n9 + 1) (s9 ||| 2 ^ m9) := by
              conv => lhs; simp only [rd_pegs]
              rw [if_pos c9, hn, rd_b_ok, if_neg (by rw [ht]; decide), if_neg c4]
            have nx : ∀ (v9 : Int32) Mq2, rc_v tp Mq (.ok m9) k9 v9 Mq2 → pg_Ev S Λ YX7_next (d + 3) [.ref 1] Mq2 (fun r M' => r = none ∧ (rc_R M' tp (.ok (k9 + 1)) ∧ rc_rf M M')) := by
              rintro v9 Mq2 ⟨g1, g2, _⟩
              refine pg_Ev.imp ?_ (rc_rnext (S := S) (d := d) hX hk g2)
              rintro q7 M9 ⟨y1, y2, y3⟩
              exact ⟨y1, y2, (hf.trans g1).trans y3⟩
            refine sX7_readPegs_28 (Q0 := fun v M' => rc_v tp Mq (.ok m9) k9 v M') (Q1 := fun _ => True) (Q2 := fun _ => True) (Q3 := fun _ => True) (Q4 := fun M' => rc_R M' tp (.ok (k9 + 1)) ∧ rc_rf M M') (Q5 := fun _ => True) (Q6 := fun _ => True) (Q7 := fun _ => True) (Q8 := fun _ => True) (Q9 := fun _ => True) (Q10 := fun _ => True) hX nh (fun v9 Mq2 g9 c => absurd g9.2.1.f0 c) (fun v9 Mq2 g9 c => absurd g9.2.1.f0 c) (fun v9 Mq2 g9 c => absurd g9.2.1.f0 c) (fun v9 Mq2 g9 c => absurd g9.2.1.f0 c) (fun v9 Mq2 g9 c => absurd g9.2.1.f0 c) (fun v9 Mq2 g9 _ _ _ => nx v9 Mq2 g9) (fun v9 Mq2 g8 _ _ _ Mq3 g9 => ?_) (fun v9 Mq2 _ _ _ c => absurd c n4) (fun v9 Mq2 _ _ _ c => absurd c n4) (fun v9 Mq2 _ _ _ c => absurd c n4) (fun v9 Mq2 g9 _ c => absurd (yb v9 Mq2 g9) c) (fun v9 Mq2 g9 _ c => absurd (yb v9 Mq2 g9) c) (fun v9 Mq2 g9 _ c => absurd (yb v9 Mq2 g9) c) (fun v9 Mq2 g9 _ c => absurd (yb v9 Mq2 g9) c) (fun v9 Mq2 g9 _ c => absurd (yb v9 Mq2 g9) c) (fun v9 Mq2 g9 _ c => absurd (yb v9 Mq2 g9) c)
            rw [he, nI_1, g8.2.2, nb_set (by omega)]
            exact ih9 (k9 + 1) (n9 + 1) (s9 ||| 2 ^ m9) Mq3 (by omega) (by omega) (Nat.or_lt_two_pow (n := 8) h3 (Nat.pow_lt_pow_right (by decide) (by omega))) g9.1 g9.2
    refine sX7_readPegs_4 hX (fun c => absurd c cb) (fun _ c => absurd hR.f0 c) (fun _ _ q9 => go (Or.inl (i0.mp q9))) (fun _ _ q9 q8 => ?_) (fun _ _ _ q8 => go (Or.inr (s3.mp q8)))
    refine ⟨_, rfl, ?_⟩
    have he : rd_pegs tp (f9 + 1) k9 n9 s9 = .ok (k9, s9) := by
      simp only [rd_pegs]
      rw [if_neg]
      rintro (c | c)
      · exact q9 (i0.mpr c)
      · exact q8 (s3.mpr c)
    rw [he]
    exact ⟨hf, hR, rfl⟩
theorem rc_readPegs (hX : pg_isX7 Λ) (hk : tk_ok tp) (hR : rc_R M tp (.ok k9)) : pg_Ev S Λ YX7_readPegs (d + 4) [.ref 1] M (fun q M' => ∃ v, q = some (.int v) ∧ rc_pp tp M (rd_pegs tp 6 k9 0 0) v M') :=
  oX7_readPegs (sX7_readPegs_0 (rc_readPegs4 hX hk 6 k9 0 0 M (by omega) (by omega) (by omega) hR rc_rf.rfl'))
theorem rc_readPegs_e {e9 : Nat} (hX : pg_isX7 Λ) (hR : rc_R M tp (.error e9)) : pg_Ev S Λ YX7_readPegs (d + 4) [.ref 1] M (fun q M' => ∃ v, q = some (.int v) ∧ M' = M) :=
  oX7_readPegs (sX7_readPegs_0 (sX7_readPegs_4 hX (fun c => absurd c (by decide)) (fun _ _ => ⟨_, rfl, rfl⟩) (fun _ c => absurd c hR.f1) (fun _ c => absurd c hR.f1) (fun _ c => absurd c hR.f1)))
end PGR
