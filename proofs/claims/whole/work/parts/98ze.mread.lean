/-! LINES: the reference finds names; reads pegs -/
theorem rd_find_succ {nm : Nat → List Nat} {i9 : Nat} {w9 : List Nat} : rd_find nm (i9 + 1) w9 = (rd_find nm i9 w9).or (if nm i9 = w9 then some i9 else none) := by
  unfold rd_find
  rw [List.range_succ, List.find?_append]
  congr 1
  by_cases c9 : nm i9 = w9
  · rw [if_pos c9, List.find?_cons, decide_eq_true c9]
  · rw [if_neg c9, List.find?_cons, decide_eq_false c9]; rfl
section PGR
variable {S : pg_S} {Λ : pg_L} {d n9 k9 : Nat} {M : pg_M} {tp : List Nat}
/-- names as the reference holds them: 0 the line's, 1 those that are read -/
def rm_rN (M : pg_M) (b9 m9 : Nat) (nm : Nat → List Nat) : Prop := M.1 207 (16 + b9) = nI m9 ∧ ∀ c9, c9 < m9 → M.2.1 (216 + b9) c9 = lN (sp_w 37 (nm c9))
def rd_nok (m9 : Nat) (nm : Nat → List Nat) : Prop := m9 ≤ 6 ∧ (∀ c9, c9 < m9 → tk_good (nm c9)) ∧ ∀ c9 e9, c9 < m9 → e9 < m9 → nm c9 = nm e9 → c9 = e9
theorem rm_rN.rf {b9 m9 : Nat} {nm : Nat → List Nat} {M' : pg_M} (hn : rm_rN M b9 m9 nm) (hb : b9 < 2) (g : rm_rf M M') : rm_rN M' b9 m9 nm := ⟨by rw [g.2 (16 + b9) (by omega) (by omega)]; exact hn.1, fun c9 hc => by rw [g.1.2.1 (216 + b9) (by simp; omega)]; exact hn.2 c9 hc⟩
theorem rm_find {b9 m9 : Nat} {nm : Nat → List Nat} (hb : b9 < 2) (hX : pg_isX11 Λ) (hk : tk_ok tp) (hR : rm_R M tp n9 (.ok k9)) (h2 : (tk_tok tp k9).1 = 2) (hn : rm_rN M b9 m9 nm) (ho : rd_nok m9 nm) : pg_Ev S Λ YX11_find d [.ref 207, .int (nI b9)] M (fun r M' => ∃ v, r = some (.int v) ∧ (v = rd_fi (rd_find nm m9 (tk_tok tp k9).2) ∧ M' = M)) := by
  obtain ⟨g1, g2, g3, g4, g5⟩ := hR.at9
  obtain ⟨o1, o2, o3⟩ := ho
  have hw : tk_good (tk_tok tp k9).2 := tk_t_good h2
  have ev : M.2.1 211 (M.1 207 7).toNatClampNeg = lN (sp_w 37 (tk_tok tp k9).2) := by rw [g1, g4]; exact g5.2.2.1 h2
  have ib : (nI b9 = 0) ↔ b9 = 0 := by rw [← nI_0, nI_eq (by omega) (by decide)]
  refine oX11_find (sX11_find_0 ?_)
  refine pg_loop (σ := Unit) (fun i9 _ => pg_At S Λ YX11_find d 4 [(0, .ref 207), (1, .int (nI b9)), (2, .int (rd_fi (rd_find nm i9 (tk_tok tp k9).2))), (3, .int (nI i9))] [] M _) (fun i9 _ => True) m9 ?_ ?_ 0 () (Nat.zero_le _) trivial
  · rintro _ _
    have cq : nI m9 ≤ nI m9 := nI_le (Nat.le_refl _) (by omega)
    have ends : ∀ s0 : Int32, s0 = nI m9 → pg_At S Λ YX11_find d 20 [(0, .ref 207), (1, .int (nI b9)), (2, .int (rd_fi (rd_find nm m9 (tk_tok tp k9).2))), (3, .int (nI m9))] [.int s0, .int (nI m9)] M (fun r M' => ∃ v, r = some (.int v) ∧ (v = rd_fi (rd_find nm m9 (tk_tok tp k9).2) ∧ M' = M)) := fun s0 hs => by
      rw [hs]
      exact sX11_find_20 hX (fun _ => ⟨_, rfl, rfl, rfl⟩) (fun c => absurd cq c) (fun c => absurd cq c) (fun c => absurd cq c) (fun c => absurd cq c) (fun c => absurd cq c) (fun c => absurd cq c) (fun c => absurd cq c) (fun c => absurd cq c)
    refine sX11_find_4 hX (fun q9 => ends _ ?_) (fun q9 => ends _ ?_)
    · have : b9 = 0 := ib.mp q9
      subst this; exact hn.1
    · have : b9 = 1 := by have : ¬ b9 = 0 := fun c => q9 (ib.mpr c); omega
      subst this; exact hn.1
  · rintro i9 _ hi _ ihq
    have cq : ¬ nI m9 ≤ nI i9 := nI_ge hi (by omega)
    have hcl : (nI i9).toNatClampNeg = i9 := nI_clamp (by omega)
    have ev2 : lg_cmp (M.2.1 (216 + b9) i9) (M.2.1 211 (M.1 207 7).toNatClampNeg) = 0 ↔ nm i9 = (tk_tok tp k9).2 := by rw [lg_cmp_eq, ev, hn.2 i9 hi, tk_code37 (o2 i9 hi) hw]
    have same : ¬ nm i9 = (tk_tok tp k9).2 → rd_find nm i9 (tk_tok tp k9).2 = rd_find nm (i9 + 1) (tk_tok tp k9).2 := fun c9 => by rw [rd_find_succ, if_neg c9, Option.or_none]
    have here : nm i9 = (tk_tok tp k9).2 → rd_find nm (i9 + 1) (tk_tok tp k9).2 = some i9 := fun c9 => by
      have none9 : rd_find nm i9 (tk_tok tp k9).2 = none := by
        cases hf : rd_find nm i9 (tk_tok tp k9).2 with
        | none => rfl
        | some e9 =>
          have := rd_find_lt hf
          have := o3 e9 i9 (by omega) hi (by rw [this.2, c9])
          omega
      rw [rd_find_succ, none9, if_pos c9]; rfl
    have nx := ihq () trivial
    have go : ∀ s0 : Int32, s0 = nI m9 → pg_At S Λ YX11_find d 20 [(0, .ref 207), (1, .int (nI b9)), (2, .int (rd_fi (rd_find nm i9 (tk_tok tp k9).2))), (3, .int (nI i9))] [.int s0, .int (nI i9)] M (fun r M' => ∃ v, r = some (.int v) ∧ (v = rd_fi (rd_find nm m9 (tk_tok tp k9).2) ∧ M' = M)) := fun s0 hs => by
      rw [hs]
      refine sX11_find_20 hX (fun c => absurd c cq) (fun _ _ => vp_in_nI (by omega) (by decide)) (fun _ _ => hR.vin) (fun _ q9 q8 => ?_) (fun _ q9 q8 => ?_) (fun _ _ => vp_in_nI (by omega) (by decide)) (fun _ _ => hR.vin) (fun _ q9 q8 => ?_) (fun _ q9 q8 => ?_)
      · have e9 : b9 = 0 := ib.mp q9
        rw [hcl] at q8
        have q7 : ¬ nm i9 = (tk_tok tp k9).2 := fun c => q8 (by have := ev2.mpr c; rw [e9] at this; exact this)
        rw [nI_1, same q7]; exact nx
      · have e9 : b9 = 0 := ib.mp q9
        rw [hcl] at q8
        have q7 : nm i9 = (tk_tok tp k9).2 := ev2.mp (by rw [e9]; exact q8)
        rw [nI_1]
        rw [here q7] at nx; exact nx
      · have e9 : b9 = 1 := by have : ¬ b9 = 0 := fun c => q9 (ib.mpr c); omega
        rw [hcl] at q8
        have q7 : ¬ nm i9 = (tk_tok tp k9).2 := fun c => q8 (by have := ev2.mpr c; rw [e9] at this; exact this)
        rw [nI_1, same q7]; exact nx
      · have e9 : b9 = 1 := by have : ¬ b9 = 0 := fun c => q9 (ib.mpr c); omega
        rw [hcl] at q8
        have q7 : nm i9 = (tk_tok tp k9).2 := ev2.mp (by rw [e9]; exact q8)
        rw [nI_1]
        rw [here q7] at nx; exact nx
    refine sX11_find_4 hX (fun q9 => go _ ?_) (fun q9 => go _ ?_)
    · have : b9 = 0 := ib.mp q9
      subst this; exact hn.1
    · have : b9 = 1 := by have : ¬ b9 = 0 := fun c => q9 (ib.mpr c); omega
      subst this; exact hn.1
theorem rm_toldHere_e {e9 : Nat} {x9 : Int32} (hX : pg_isX11 Λ) (hR : rm_R M tp n9 (.error e9)) : pg_Ev S Λ YX11_toldHere (d + 1) [.ref 207, .int x9] M (fun r M' => ∃ v, r = some (.int v) ∧ M' = M) := by
  have n0 := hR.e0
  refine oX11_toldHere (sX11_toldHere_0 (Q0 := fun _ _ => True) (Q1 := fun _ => True) hX (fun _ => ?_) (fun c => absurd c n0) (fun c => absurd c n0) (fun c => absurd c n0) (fun c => absurd c n0))
  refine sX11_toldHere_19 (Q0 := fun _ _ => True) hX (fun c => absurd c hR.fle) (fun c => absurd c hR.fle) (fun _ => ?_)
  exact sX11_toldHere_35 (Q0 := fun _ => True) hX (fun _ c => absurd c hR.fle) (fun _ _ => ⟨_, rfl, rfl⟩) (fun c => absurd c n0) (fun c => absurd c n0) (fun c => absurd c n0) (fun c => absurd c n0) (fun c => absurd c n0)
theorem rm_toldHere {b9 m9 : Nat} {nm : Nat → List Nat} (hb : b9 < 2) (hX : pg_isX11 Λ) (hk : tk_ok tp) (hR : rm_R M tp n9 (.ok k9)) (hn : rm_rN M b9 m9 nm) (ho : rd_nok m9 nm) : pg_Ev S Λ YX11_toldHere (d + 3) [.ref 207, .int (nI b9)] M (fun r M' => ∃ v, r = some (.int v) ∧ rm_v tp n9 M (rd_told tp nm m9 k9) k9 v M') := by
  have w1 := rm_wrong (S := S) (Λ := Λ) (d := d + 2) (m9 := 1) (by omega) (by omega) hX hk hR
  have w2 := rm_wrong (S := S) (Λ := Λ) (d := d + 2) (m9 := 2) (by omega) (by omega) hX hk hR
  have hi := rm_isName (S := S) (Λ := Λ) (d := d) hX hk hR
  cases hnm : rd_nm tp k9 with
  | false =>
    rw [hnm] at hi
    have he : rd_told tp nm m9 k9 = .error (1 + 16 * tk_place tp k9) := by unfold rd_told; rw [if_neg (by rw [hnm]; decide)]; rfl
    refine oX11_toldHere (sX11_toldHere_0 (Q0 := fun v M' => v = b2i false ∧ M' = M) (Q1 := fun M' => rm_R M' tp n9 (.error (1 + 16 * tk_place tp k9)) ∧ rm_rf M M' ∧ M'.1 207 7 = M.1 207 7) hX (fun c => absurd hR.z0 c) (fun _ => hi) (fun _ v9 Mq1 y9 c => absurd y9.1 c) (fun _ v9 Mq1 y9 _ => by rw [y9.2]; exact w1) (fun _ v9 Mq1 _ _ Mq2 y9 => ?_))
    have n0 := y9.1.e0
    refine sX11_toldHere_19 (Q0 := fun _ _ => True) hX (fun c => absurd c y9.1.fle) (fun c => absurd c y9.1.fle) (fun _ => ?_)
    exact sX11_toldHere_35 (Q0 := fun _ => True) hX (fun _ c => absurd c y9.1.fle) (fun _ _ => ⟨_, rfl, y9.2.1, by rw [he]; exact y9.1⟩) (fun c => absurd c n0) (fun c => absurd c n0) (fun c => absurd c n0) (fun c => absurd c n0) (fun c => absurd c n0)
  | true =>
    rw [hnm] at hi
    have hf9 := rm_find (S := S) (Λ := Λ) (d := d + 2) hb hX hk hR (rd_nm_2 hnm) hn ho
    refine oX11_toldHere (sX11_toldHere_0 (Q0 := fun v M' => v = b2i true ∧ M' = M) (Q1 := fun _ => True) hX (fun c => absurd hR.z0 c) (fun _ => hi) (fun _ v9 Mq1 y9 _ => ?_) (fun _ v9 Mq1 y9 c => by rw [y9.1] at c; exact absurd c (by decide)) (fun _ v9 Mq1 y9 c => by rw [y9.1] at c; exact absurd c (by decide)))
    rw [y9.2]
    refine sX11_toldHere_19 (Q0 := fun v M' => v = rd_fi (rd_find nm m9 (tk_tok tp k9).2) ∧ M' = M) hX (fun _ => hf9) (fun _ v8 Mq2 y8 => ?_) (fun c => absurd hR.f0 c)
    rw [y8.1, y8.2]
    cases hf : rd_find nm m9 (tk_tok tp k9).2 with
    | none =>
      have he : rd_told tp nm m9 k9 = .error (2 + 16 * tk_place tp k9) := by unfold rd_told; rw [if_pos hnm, hf]; rfl
      refine sX11_toldHere_35 (Q0 := fun M' => rm_R M' tp n9 (.error (2 + 16 * tk_place tp k9)) ∧ rm_rf M M' ∧ M'.1 207 7 = M.1 207 7) hX (fun c => absurd hR.z0 c) (fun c => absurd hR.z0 c) (fun _ c => absurd c (by show ¬ (0 : Int32) ≤ -1; decide)) (fun _ c => absurd c (by show ¬ (0 : Int32) ≤ -1; decide)) (fun _ _ => w2) (fun _ _ Mq3 y7 c => absurd c y7.1.fle) (fun _ _ Mq3 y7 _ => ⟨_, rfl, y7.2.1, by rw [he]; exact y7.1⟩)
    | some c9 =>
      have lt := (rd_find_lt hf).1
      have o1 := ho.1
      have he : rd_told tp nm m9 k9 = .ok c9 := by unfold rd_told; rw [if_pos hnm, hf]
      have po : (0 : Int32) ≤ rd_fi (some c9) := by show (0 : Int32) ≤ nI c9; rw [← nI_0, nI_leI (by decide) (by omega)]; omega
      exact sX11_toldHere_35 (Q0 := fun _ => True) hX (fun c => absurd hR.z0 c) (fun c => absurd hR.z0 c) (fun _ _ _ => ⟨_, rfl, rm_rf.rfl', by rw [he]; exact ⟨hR, rfl⟩⟩) (fun _ _ c => absurd hR.f0 c) (fun _ c => absurd po c) (fun _ c => absurd po c) (fun _ c => absurd po c)
theorem rm_takeTold {b9 m9 : Nat} {nm : Nat → List Nat} (hb : b9 < 2) (hX : pg_isX11 Λ) (hk : tk_ok tp) (hR : rm_R M tp n9 (.ok k9)) (hn : rm_rN M b9 m9 nm) (ho : rd_nok m9 nm) : pg_Ev S Λ YX11_takeTold (d + 4) [.ref 207, .int (nI b9)] M (fun r M' => ∃ v, r = some (.int v) ∧ rm_v tp n9 M (rd_told tp nm m9 k9) (k9 + 1) v M') := by
  have th := rm_toldHere (S := S) (Λ := Λ) (d := d) hb hX hk hR hn ho
  cases ht : rd_told tp nm m9 k9 with
  | error e9 =>
    rw [ht] at th
    refine oX11_takeTold (sX11_takeTold_0 (Q0 := fun v M' => rm_v tp n9 M (.error e9) k9 v M') hX th (fun v9 Mq1 y9 c => absurd c y9.2.fle) (fun v9 Mq1 y9 _ => ?_))
    have e0 : pg_si Mq1 207 7 ((Mq1.1 207 7) + 0) = Mq1 := by
      have : (Mq1.1 207 7) + 0 = Mq1.1 207 7 := Int32.add_zero _
      rw [this]
      exact pg_si_self Mq1 207 7
    rw [e0]
    exact ⟨_, rfl, y9⟩
  | ok c9 =>
    rw [ht] at th
    have lt := rd_told_ok ht
    refine oX11_takeTold (sX11_takeTold_0 (Q0 := fun v M' => rm_v tp n9 M (.ok c9) k9 v M') hX th (fun v9 Mq1 y9 _ => ?_) (fun v9 Mq1 y9 c => absurd y9.2.1.f0 c))
    obtain ⟨a1, a2⟩ := y9.2.1.adv (by rw [rd_nm_2 lt.2.2.1]; decide)
    exact ⟨_, rfl, y9.1.trans a2, a1, y9.2.2⟩
/-- a step back, for a fault -/
theorem rm_back {m9 k8 : Nat} {Mq : pg_M} (h0 : 0 < m9) (hm : m9 < 16) (hX : pg_isX11 Λ) (hk : tk_ok tp) (hR : rm_R Mq tp n9 (.ok (k8 + 1))) (g : rm_rf M Mq) : pg_Ev S Λ YX11_wrong d [.ref 207, .int (nI m9)] (pg_si Mq 207 7 ((Mq.1 207 7) - 1)) (fun r M' => r = none ∧ (rm_R M' tp n9 (.error (m9 + 16 * tk_place tp k8)) ∧ rm_rf M M')) := by
  obtain ⟨g1, g2, g3, g4, g5⟩ := hR.at9
  obtain ⟨h1, h2, h3, h4, z1, z2, z3⟩ := hR
  have f9 : rm_rf Mq (pg_si Mq 207 7 ((Mq.1 207 7) - 1)) := rm_rf.si (by omega)
  have r9 : rm_R (pg_si Mq 207 7 ((Mq.1 207 7) - 1)) tp n9 (.ok k8) := by
    refine ⟨h1, h2, fun j9 hj => (h3 j9 hj).rf f9, h4.rf f9, ?_, ?_, by omega⟩
    · rw [pg_si_at, pk_un (by decide)]; exact z1
    · rw [pg_si_at, pk_us, g1, show (1 : Int32) = nI 1 from rfl, pk_sub (by omega), Nat.add_sub_cancel]
  refine pg_Ev.imp ?_ (rm_wrong (S := S) (d := d) h0 hm hX hk r9)
  rintro q7 M9 ⟨y1, y2, y3, _⟩
  exact ⟨y1, y2, (g.trans f9).trans y3⟩
def rm_pp (tp : List Nat) (n9 : Nat) (M : pg_M) (x9 : Except Nat (Nat × Nat)) (v9 : Int32) (M' : pg_M) : Prop := rm_rf M M' ∧ match x9 with
  | .error e9 => rm_R M' tp n9 (.error e9)
  | .ok y9 => rm_R M' tp n9 (.ok y9.1) ∧ v9 = nI y9.2
theorem rm_readPegs4 (hX : pg_isX11 Λ) (hk : tk_ok tp) : ∀ f9 k9 i9 s9 Mq, i9 ≤ 4 → 5 < f9 + i9 → s9 < 256 → rm_R Mq tp n9 (.ok k9) → rm_rf M Mq → pg_At S Λ YX11_readPegs (d + 2) 4 [(0, .ref 207), (1, .int (nI s9)), (2, .int (nI i9))] [] Mq (fun q M' => ∃ v, q = some (.int v) ∧ rm_pp tp n9 M (rd_pegs tp f9 k9 i9 s9) v M') := by
  intro f9
  induction f9 with
  | zero => intro k9 i9 s9 Mq h1 h2; omega
  | succ f9 ih9 =>
    intro k9 i9 s9 Mq h1 h2 h3 hR hf
    have s2 := hR.s2 hk
    have i0 : (nI i9 = 0) ↔ i9 = 0 := by rw [← nI_0, nI_eq (by omega) (by decide)]
    have i4 : (nI i9 = 4) ↔ i9 = 4 := by rw [show (4 : Int32) = nI 4 from rfl, nI_eq (by omega) (by decide)]
    have go : (i9 = 0 ∨ (tk_tok tp k9).1 = 3) → pg_At S Λ YX11_readPegs (d + 2) 28 [(0, .ref 207), (1, .int (nI s9)), (2, .int (nI i9))] [] Mq (fun q M' => ∃ v, q = some (.int v) ∧ rm_pp tp n9 M (rd_pegs tp (f9 + 1) k9 i9 s9) v M') := by
      intro c9
      have nh := rm_takeNumber (S := S) (Λ := Λ) (d := d) (lo := 0) (hi := 7) (by omega) (by omega) hX hk hR
      have erl : ∀ e9 (Mq2 : pg_M) (v4 v5 : Int32), rm_R Mq2 tp n9 (.error e9) → rm_rf M Mq2 → rd_pegs tp (f9 + 1) k9 i9 s9 = .error e9 → pg_At S Λ YX11_readPegs (d + 2) 4 [(0, .ref 207), (1, .int v4), (2, .int v5)] [] Mq2 (fun q M' => ∃ v, q = some (.int v) ∧ rm_pp tp n9 M (rd_pegs tp (f9 + 1) k9 i9 s9) v M') := fun e9 Mq2 v4 v5 g1 g2 he => by
        rw [he]
        exact sX11_readPegs_4 hX (fun _ => ⟨_, rfl, g2, g1⟩) (fun c => absurd c g1.e0) (fun c => absurd c g1.e0) (fun c => absurd c g1.e0) (fun c => absurd c g1.e0)
      cases hn : rd_num tp 0 7 k9 with
      | error e9 =>
        rw [hn] at nh
        have he : rd_pegs tp (f9 + 1) k9 i9 s9 = .error e9 := by
          simp only [rd_pegs]
          rw [if_pos c9, hn, rd_b_er]
        exact sX11_readPegs_28 (Q0 := fun v M' => rm_v tp n9 Mq (.error e9) (k9 + 1) v M') (Q1 := fun _ => True) (Q2 := fun _ => True) hX nh (fun v9 Mq2 g9 _ _ _ => erl e9 Mq2 _ _ g9.2 (hf.trans g9.1) he) (fun v9 Mq2 g9 _ _ c => absurd c g9.2.e0) (fun v9 Mq2 g9 _ _ _ => erl e9 Mq2 _ _ g9.2 (hf.trans g9.1) he) (fun v9 Mq2 g9 _ _ c => absurd c g9.2.e0) (fun v9 Mq2 g9 _ _ c => absurd c g9.2.e0) (fun v9 Mq2 g9 _ _ => erl e9 Mq2 _ _ g9.2 (hf.trans g9.1) he) (fun v9 Mq2 g9 _ c => absurd c g9.2.e0) (fun v9 Mq2 g9 _ c => absurd c g9.2.e0)
      | ok m9 =>
        rw [hn] at nh
        have nv := rd_num_ok hn
        have ib : ∀ (v9 : Int32) Mq2, rm_v tp n9 Mq (.ok m9) (k9 + 1) v9 Mq2 → ((((nI s9) >>> (v9 &&& 31)) &&& 1) = 1 ↔ s9.testBit m9 = true) := fun v9 Mq2 g9 => by rw [g9.2.2, nb_bit' (by omega) (by omega)]
        by_cases ht : s9.testBit m9 = true
        · have he : rd_pegs tp (f9 + 1) k9 i9 s9 = .error (3 + 16 * tk_place tp k9) := by
            simp only [rd_pegs]
            rw [if_pos c9, hn, rd_b_ok, if_pos ht]; rfl
          exact sX11_readPegs_28 (Q0 := fun v M' => rm_v tp n9 Mq (.ok m9) (k9 + 1) v M') (Q1 := fun _ => True) (Q2 := fun M' => rm_R M' tp n9 (.error (3 + 16 * tk_place tp k9)) ∧ rm_rf M M') hX nh (fun v9 Mq2 g9 c => absurd ((ib v9 Mq2 g9).mpr ht) c) (fun v9 Mq2 g9 c => absurd ((ib v9 Mq2 g9).mpr ht) c) (fun v9 Mq2 g9 c => absurd ((ib v9 Mq2 g9).mpr ht) c) (fun v9 Mq2 g9 c => absurd ((ib v9 Mq2 g9).mpr ht) c) (fun v9 Mq2 g9 c => absurd ((ib v9 Mq2 g9).mpr ht) c) (fun v9 Mq2 g9 _ c => absurd g9.2.1.z0 c) (fun v9 Mq2 g9 _ _ => rm_back (m9 := 3) (by omega) (by omega) hX hk g9.2.1 (hf.trans g9.1)) (fun v9 Mq2 g9 _ _ Mq3 y9 => erl _ Mq3 _ _ y9.1 y9.2 he)
        · have nb : ∀ (v9 : Int32) Mq2, rm_v tp n9 Mq (.ok m9) (k9 + 1) v9 Mq2 → ¬ ((((nI s9) >>> (v9 &&& 31)) &&& 1) = 1) := fun v9 Mq2 g9 c => ht ((ib v9 Mq2 g9).mp c)
          by_cases c4 : i9 = 4
          · have q4 := i4.mpr c4
            have he : rd_pegs tp (f9 + 1) k9 i9 s9 = .error (5 + 16 * tk_place tp k9) := by
              simp only [rd_pegs]
              rw [if_pos c9, hn, rd_b_ok, if_neg ht, if_pos c4]; rfl
            exact sX11_readPegs_28 (Q0 := fun v M' => rm_v tp n9 Mq (.ok m9) (k9 + 1) v M') (Q1 := fun M' => rm_R M' tp n9 (.error (5 + 16 * tk_place tp k9)) ∧ rm_rf M M') (Q2 := fun _ => True) hX nh (fun v9 Mq2 g9 _ c => absurd q4 c) (fun v9 Mq2 g9 _ c => absurd q4 c) (fun v9 Mq2 g9 _ _ c => absurd g9.2.1.z0 c) (fun v9 Mq2 g9 _ _ _ => rm_back (m9 := 5) (by omega) (by omega) hX hk g9.2.1 (hf.trans g9.1)) (fun v9 Mq2 g9 _ _ _ Mq3 y9 => erl _ Mq3 _ _ y9.1 y9.2 he) (fun v9 Mq2 g9 c => absurd c (nb v9 Mq2 g9)) (fun v9 Mq2 g9 c => absurd c (nb v9 Mq2 g9)) (fun v9 Mq2 g9 c => absurd c (nb v9 Mq2 g9))
          · have n4 : ¬ nI i9 = 4 := fun c => c4 (i4.mp c)
            have he : rd_pegs tp (f9 + 1) k9 i9 s9 = rd_pegs tp f9 (k9 + 1) (i9 + 1) (s9 ||| 2 ^ m9) := by
              conv => lhs; simp only [rd_pegs]
              rw [if_pos c9, hn, rd_b_ok, if_neg ht, if_neg c4]
            refine sX11_readPegs_28 (Q0 := fun v M' => rm_v tp n9 Mq (.ok m9) (k9 + 1) v M') (Q1 := fun _ => True) (Q2 := fun _ => True) hX nh (fun v9 Mq2 g9 _ _ c => absurd g9.2.1.z0 c) (fun v9 Mq2 g8 _ _ _ => ?_) (fun v9 Mq2 g9 _ c => absurd c n4) (fun v9 Mq2 g9 _ c => absurd c n4) (fun v9 Mq2 g9 _ c => absurd c n4) (fun v9 Mq2 g9 c => absurd c (nb v9 Mq2 g9)) (fun v9 Mq2 g9 c => absurd c (nb v9 Mq2 g9)) (fun v9 Mq2 g9 c => absurd c (nb v9 Mq2 g9))
            rw [he, nI_1, g8.2.2, nb_set (by omega)]
            exact ih9 (k9 + 1) (i9 + 1) (s9 ||| 2 ^ m9) Mq2 (by omega) (by omega) (Nat.or_lt_two_pow (n := 8) h3 (Nat.pow_lt_pow_right (by decide) (by omega))) g8.2.1 (hf.trans g8.1)
    refine sX11_readPegs_4 hX (fun c => absurd hR.z0 c) (fun _ q9 => go (Or.inl (i0.mp q9))) (fun _ _ => hR.vin) (fun _ q9 q8 => ?_) (fun _ _ q8 => go (Or.inr (s2.mp q8)))
    refine ⟨_, rfl, ?_⟩
    have he : rd_pegs tp (f9 + 1) k9 i9 s9 = .ok (k9, s9) := by
      simp only [rd_pegs]
      rw [if_neg]
      rintro (c | c)
      · exact q9 (i0.mpr c)
      · exact q8 (s2.mpr c)
    rw [he]
    exact ⟨hf, hR, rfl⟩
theorem rm_readPegs (hX : pg_isX11 Λ) (hk : tk_ok tp) (hR : rm_R M tp n9 (.ok k9)) : pg_Ev S Λ YX11_readPegs (d + 2) [.ref 207] M (fun q M' => ∃ v, q = some (.int v) ∧ rm_pp tp n9 M (rd_pegs tp 6 k9 0 0) v M') :=
  oX11_readPegs (sX11_readPegs_0 (rm_readPegs4 hX hk 6 k9 0 0 M (by omega) (by omega) (by omega) hR rm_rf.rfl'))
theorem rm_readPegs_e {e9 : Nat} (hX : pg_isX11 Λ) (hR : rm_R M tp n9 (.error e9)) : pg_Ev S Λ YX11_readPegs (d + 1) [.ref 207] M (fun q M' => ∃ v, q = some (.int v) ∧ M' = M) :=
  oX11_readPegs (sX11_readPegs_0 (sX11_readPegs_4 hX (fun _ => ⟨_, rfl, rfl⟩) (fun c => absurd c hR.e0) (fun c => absurd c hR.e0) (fun c => absurd c hR.e0) (fun c => absurd c hR.e0)))
end PGR
