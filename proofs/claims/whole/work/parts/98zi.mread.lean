/-! LINES: the reference reads what is told once -/
section PGR
variable {S : pg_S} {Λ : pg_L} {d n9 k9 a9 : Nat} {M : pg_M} {tp : List Nat} {X9 : rd_X}
theorem rm_rX.row {w9 b9 m9 v9 : Nat} (h6 : X9.1 4 0 ≤ 6) (h8 : X9.1 4 4 ≤ 8) (hw : w9 = 7 ∧ b9 = 168 ∧ m9 < 8 ∨ w9 = 5 ∧ b9 = 176 ∧ m9 < 12) (hx : rm_rX M a9 X9) : rm_rX (pg_si M 213 (b9 + m9) (nI v9)) a9 (sp_up X9.1 w9 m9 v9, X9.2) := by
  obtain ⟨⟨a1, a2, a3, a4, a5, a6, a7, a8, a9', a10, a11, a12, a13, a14⟩, c1, c2⟩ := hx
  have ne : ∀ j9, j9 ≠ b9 + m9 → (pg_si M 213 (b9 + m9) (nI v9)).1 213 j9 = M.1 213 j9 := fun j9 hj => by rw [pg_si_at, pk_un hj]
  have no : ∀ b8, b8 ≠ 213 → (pg_si M 213 (b9 + m9) (nI v9)).1 b8 = M.1 b8 := fun b8 hb => pg_si_ne hb
  have lo : ∀ x9 y9, x9 ≠ w9 → (sp_up X9.1 w9 m9 v9) x9 y9 = X9.1 x9 y9 := fun x9 y9 z9 => sp_up_ne (fun c => z9 c.1)
  have ee : ∀ q9, q9 < 2 → rm_rE M a9 q9 (X9.2.1 q9) → rm_rE (pg_si M 213 (b9 + m9) (nI v9)) a9 q9 (X9.2.1 q9) := fun q9 hq he => by
    unfold rm_rE at he ⊢
    rw [ne (106 + q9) (by omega), no 214 (by decide), no 215 (by decide)]; exact he
  have e4 : ∀ i9 f9, f9 < 106 → M.1 213 f9 = nI (X9.1 4 i9) → (pg_si M 213 (b9 + m9) (nI v9)).1 213 f9 = nI ((sp_up X9.1 w9 m9 v9) 4 i9) := fun i9 f9 hf hm => by
    rw [ne f9 (by omega), lo 4 i9 (by omega)]; exact hm
  refine ⟨⟨e4 0 100 (by omega) a1, e4 4 101 (by omega) a2, e4 3 102 (by omega) a3, e4 1 103 (by omega) a4, e4 2 104 (by omega) a5, e4 5 105 (by omega) a6, fun c9 i9 hc hi => ?_, fun x9 y9 hx hy => ?_, fun p9 hp => ?_, fun j9 hj => ?_, ee 0 (by omega) a11, ee 1 (by omega) a12, by rw [no 207 (by decide)]; exact a13, by rw [no 207 (by decide)]; exact a14⟩, ?_⟩
  · have hc : c9 < (sp_up X9.1 w9 m9 v9) 4 0 := hc
    rw [lo 4 0 (by omega)] at hc
    show _ = nI ((sp_up X9.1 w9 m9 v9) i9 c9)
    rw [ne _ (by omega), lo i9 c9 (by omega)]
    exact a7 c9 i9 hc hi
  · show _ = nI ((sp_up X9.1 w9 m9 v9) 6 (6 * x9 + y9))
    rw [ne _ (by omega), lo 6 _ (by omega)]; exact a8 x9 y9 hx hy
  · have hp : p9 < (sp_up X9.1 w9 m9 v9) 4 4 := hp
    rw [lo 4 4 (by omega)] at hp
    show _ = nI ((sp_up X9.1 w9 m9 v9) 7 p9)
    rcases hw with ⟨w1, w2, w3⟩ | ⟨w1, w2, w3⟩
    · by_cases z9 : p9 = m9
      · rw [z9, w1, w2, pg_si_at, pk_us, sp_up_at]
      · rw [ne _ (by omega), w1, sp_up_ne (fun c => z9 c.2)]; exact a9' p9 hp
    · rw [lo 7 p9 (by omega)]
      rw [ne _ (by omega)]; exact a9' p9 hp
  · have hj : j9 < (sp_up X9.1 w9 m9 v9) 4 3 := hj
    rw [lo 4 3 (by omega)] at hj
    show _ = nI ((sp_up X9.1 w9 m9 v9) 5 j9)
    rcases hw with ⟨w1, w2, w3⟩ | ⟨w1, w2, w3⟩
    · rw [ne _ (by omega), lo 5 j9 (by omega)]; exact a10 j9 hj
    · by_cases z9 : j9 = m9
      · rw [z9, w1, w2, pg_si_at, pk_us, sp_up_at]
      · rw [ne _ (by omega), w1, sp_up_ne (fun c => z9 c.2)]; exact a10 j9 hj
  · show rm_rN _ 1 ((sp_up X9.1 w9 m9 v9) 4 0) X9.2.2.1
    rw [lo 4 0 (by omega)]
    exact ⟨by rw [no 207 (by decide)]; exact c1, c2⟩
theorem rm_rX.num {f9 i9 v9 : Nat} (h6 : X9.1 4 0 ≤ 6) (hw : f9 = 101 ∧ i9 = 4 ∨ f9 = 102 ∧ i9 = 3 ∨ f9 = 103 ∧ i9 = 1 ∨ f9 = 104 ∧ i9 = 2) (h7 : i9 = 4 → ∀ j9, j9 < v9 → M.1 213 (168 + j9) = nI (X9.1 7 j9)) (h8 : i9 = 3 → ∀ j9, j9 < v9 → M.1 213 (176 + j9) = nI (X9.1 5 j9)) (hx : rm_rX M a9 X9) : rm_rX (pg_si M 213 f9 (nI v9)) a9 (sp_up X9.1 4 i9 v9, X9.2) := by
  obtain ⟨⟨a1, a2, a3, a4, a5, a6, a7, a8, a9', a10, a11, a12, a13, a14⟩, c1, c2⟩ := hx
  have ne : ∀ j9, j9 ≠ f9 → (pg_si M 213 f9 (nI v9)).1 213 j9 = M.1 213 j9 := fun j9 hj => by rw [pg_si_at, pk_un hj]
  have ns : (pg_si M 213 f9 (nI v9)).1 213 f9 = nI v9 := by rw [pg_si_at, pk_us]
  have no : ∀ b8, b8 ≠ 213 → (pg_si M 213 f9 (nI v9)).1 b8 = M.1 b8 := fun b8 hb => pg_si_ne hb
  have lo : ∀ x9 y9, ¬ (x9 = 4 ∧ y9 = i9) → (sp_up X9.1 4 i9 v9) x9 y9 = X9.1 x9 y9 := fun x9 y9 z9 => sp_up_ne z9
  have ls : (sp_up X9.1 4 i9 v9) 4 i9 = v9 := sp_up_at _ _ _ _
  have ee : ∀ q9, q9 < 2 → rm_rE M a9 q9 (X9.2.1 q9) → rm_rE (pg_si M 213 f9 (nI v9)) a9 q9 (X9.2.1 q9) := fun q9 hq he => by
    unfold rm_rE at he ⊢
    rw [ne (106 + q9) (by omega), no 214 (by decide), no 215 (by decide)]; exact he
  have one : ∀ g9 j9, (g9 = f9 ↔ j9 = i9) → M.1 213 g9 = nI (X9.1 4 j9) → (pg_si M 213 f9 (nI v9)).1 213 g9 = nI ((sp_up X9.1 4 i9 v9) 4 j9) := fun g9 j9 hi hm => by
    by_cases z9 : g9 = f9
    · rw [z9, ns, hi.mp z9, ls]
    · rw [ne g9 z9, lo 4 j9 (fun c => z9 (hi.mpr c.2))]; exact hm
  refine ⟨⟨one 100 0 (by omega) a1, one 101 4 (by omega) a2, one 102 3 (by omega) a3, one 103 1 (by omega) a4, one 104 2 (by omega) a5, one 105 5 (by omega) a6, fun c9 k8 hc hk => ?_, fun x9 y9 hx hy => ?_, fun p9 hp => ?_, fun j9 hj => ?_, ee 0 (by omega) a11, ee 1 (by omega) a12, by rw [no 207 (by decide)]; exact a13, by rw [no 207 (by decide)]; exact a14⟩, ?_⟩
  · have hc : c9 < (sp_up X9.1 4 i9 v9) 4 0 := hc
    rw [lo 4 0 (by omega)] at hc
    show _ = nI ((sp_up X9.1 4 i9 v9) k8 c9)
    rw [ne _ (by omega), lo k8 c9 (by omega)]
    exact a7 c9 k8 hc hk
  · show _ = nI ((sp_up X9.1 4 i9 v9) 6 (6 * x9 + y9))
    rw [ne _ (by omega), lo 6 _ (by omega)]; exact a8 x9 y9 hx hy
  · have hp : p9 < (sp_up X9.1 4 i9 v9) 4 4 := hp
    show _ = nI ((sp_up X9.1 4 i9 v9) 7 p9)
    rw [ne _ (by omega), lo 7 p9 (by omega)]
    by_cases z9 : i9 = 4
    · refine h7 z9 p9 ?_
      rw [z9, sp_up_at] at hp; exact hp
    · rw [lo 4 4 (by omega)] at hp
      exact a9' p9 hp
  · have hj : j9 < (sp_up X9.1 4 i9 v9) 4 3 := hj
    show _ = nI ((sp_up X9.1 4 i9 v9) 5 j9)
    rw [ne _ (by omega), lo 5 j9 (by omega)]
    by_cases z9 : i9 = 3
    · refine h8 z9 j9 ?_
      rw [z9, sp_up_at] at hj; exact hj
    · rw [lo 4 3 (by omega)] at hj
      exact a10 j9 hj
  · show rm_rN _ 1 ((sp_up X9.1 4 i9 v9) 4 0) X9.2.2.1
    rw [lo 4 0 (by omega)]
    exact ⟨by rw [no 207 (by decide)]; exact c1, c2⟩
def rm_rp (a9 n9 b9 w9 : Nat) (tp : List Nat) (X9 : rd_X) (M : pg_M) (x9 : Except Nat (Nat × Nat × sp_N)) (v9 : Int32) (M' : pg_M) : Prop := rm_lf M M' ∧ match x9 with
  | .error e9 => rm_R M' tp n9 (.error e9)
  | .ok y9 => rm_R M' tp n9 (.ok y9.1) ∧ v9 = nI y9.2.1 ∧ rm_rX M' a9 (y9.2.2, X9.2) ∧ ∀ j9, j9 < y9.2.1 → M'.1 213 (b9 + j9) = nI (y9.2.2 w9 j9)
theorem rm_readRow3 {w9 b9 most lo : Nat} (h6 : X9.1 4 0 ≤ 6) (h8 : X9.1 4 4 ≤ 8) (hw : w9 = 7 ∧ b9 = 168 ∧ most = 8 ∨ w9 = 5 ∧ b9 = 176 ∧ most = 12) (hlo : lo < 2 ^ 31) (hX : pg_isX11 Λ) (hk : tk_ok tp) : ∀ f9 k9 m9 L8 Mq, m9 ≤ most → most + 1 < f9 + m9 → L8 4 0 = X9.1 4 0 → L8 4 4 = X9.1 4 4 → rm_R Mq tp n9 (.ok k9) → rm_rX Mq a9 (L8, X9.2) → (∀ j9, j9 < m9 → Mq.1 213 (b9 + j9) = nI (L8 w9 j9)) → rm_lf M Mq → pg_At S Λ YX11_readRow (d + 2) 3 [(0, .ref 207), (1, .int (nI (b9 - 100))), (2, .int (nI most)), (3, .int (nI lo)), (4, .int (nI m9))] [] Mq (fun q M' => ∃ v, q = some (.int v) ∧ rm_rp a9 n9 b9 w9 tp X9 M (rd_row tp w9 most lo f9 k9 m9 L8) v M') := by
  intro f9
  induction f9 with
  | zero => intro k9 m9 L8 Mq h1 h2; omega
  | succ f9 ih9 =>
    intro k9 m9 L8 Mq h1 h2 hL hL4 hR hx hr hf
    have s2 := hR.s2 hk
    have i0 : (nI m9 = 0) ↔ m9 = 0 := by rw [← nI_0, nI_eq (by omega) (by decide)]
    have im : (nI m9 = nI most) ↔ m9 = most := nI_eq (by omega) (by omega)
    have eix : (100 : Int32) + nI (b9 - 100) + nI m9 = nI (b9 + m9) := by
      rw [show (100 : Int32) = nI 100 from rfl, nI_add, nI_add, show 100 + (b9 - 100) + m9 = b9 + m9 by omega]
    have cix : (nI (b9 + m9)).toNatClampNeg = b9 + m9 := nI_clamp (by omega)
    have go : (m9 = 0 ∨ (tk_tok tp k9).1 = 3) → pg_At S Λ YX11_readRow (d + 2) 28 [(0, .ref 207), (1, .int (nI (b9 - 100))), (2, .int (nI most)), (3, .int (nI lo)), (4, .int (nI m9))] [] Mq (fun q M' => ∃ v, q = some (.int v) ∧ rm_rp a9 n9 b9 w9 tp X9 M (rd_row tp w9 most lo (f9 + 1) k9 m9 L8) v M') := by
      intro c9
      have nh := rm_takeNumber (S := S) (Λ := Λ) (d := d) (lo := lo) (hi := 9) hlo (by omega) hX hk hR
      have erl : ∀ e9 (Mq2 : pg_M) (v4 : Int32), rm_R Mq2 tp n9 (.error e9) → rm_lf M Mq2 → rd_row tp w9 most lo (f9 + 1) k9 m9 L8 = .error e9 → pg_At S Λ YX11_readRow (d + 2) 3 [(0, .ref 207), (1, .int (nI (b9 - 100))), (2, .int (nI most)), (3, .int (nI lo)), (4, .int v4)] [] Mq2 (fun q M' => ∃ v, q = some (.int v) ∧ rm_rp a9 n9 b9 w9 tp X9 M (rd_row tp w9 most lo (f9 + 1) k9 m9 L8) v M') := fun e9 Mq2 v4 g1 g2 he => by
        rw [he]
        exact sX11_readRow_3 hX (fun _ => ⟨_, rfl, g2, g1⟩) (fun c => absurd c g1.e0) (fun c => absurd c g1.e0) (fun c => absurd c g1.e0) (fun c => absurd c g1.e0)
      cases hn : rd_num tp lo 9 k9 with
      | error e9 =>
        rw [hn] at nh
        have he : rd_row tp w9 most lo (f9 + 1) k9 m9 L8 = .error e9 := by
          simp only [rd_row]
          rw [if_pos c9, hn, rd_b_er]
        exact sX11_readRow_28 (Q0 := fun v M' => rm_v tp n9 Mq (.error e9) (k9 + 1) v M') (Q1 := fun _ => True) hX nh (fun v9 Mq2 g9 _ _ => erl e9 Mq2 _ g9.2 (hf.trans g9.1.lf) he) (fun v9 Mq2 g9 _ c => absurd c g9.2.e0) (fun v9 Mq2 g9 _ c => absurd c g9.2.e0) (fun v9 Mq2 g9 c => absurd c g9.2.e0) (fun v9 Mq2 g9 c => absurd c g9.2.e0) (fun v9 Mq2 g9 c => absurd c g9.2.e0) (fun v9 Mq2 g9 c => absurd c g9.2.e0) (fun v9 Mq2 g9 c => absurd c g9.2.e0)
      | ok v8 =>
        rw [hn] at nh
        by_cases cm : m9 = most
        · have he : rd_row tp w9 most lo (f9 + 1) k9 m9 L8 = .error (5 + 16 * tk_place tp k9) := by
            simp only [rd_row]
            rw [if_pos c9, hn, rd_b_ok, if_pos cm]; rfl
          have qm := im.mpr cm
          exact sX11_readRow_28 (Q0 := fun v M' => rm_v tp n9 Mq (.ok v8) (k9 + 1) v M') (Q1 := fun M' => rm_R M' tp n9 (.error (5 + 16 * tk_place tp k9)) ∧ rm_rf Mq M') hX nh (fun v9 Mq2 g9 c => absurd g9.2.1.z0 c) (fun v9 Mq2 g9 c => absurd g9.2.1.z0 c) (fun v9 Mq2 g9 c => absurd g9.2.1.z0 c) (fun v9 Mq2 g9 _ c => absurd qm c) (fun v9 Mq2 g9 _ c => absurd qm c) (fun v9 Mq2 g9 _ c => absurd qm c) (fun v9 Mq2 g9 _ _ => rm_back (m9 := 5) (by omega) (by omega) hX hk g9.2.1 g9.1) (fun v9 Mq2 g9 _ _ Mq3 y9 => erl _ Mq3 _ y9.1 (hf.trans y9.2.lf) he)
        · have he : rd_row tp w9 most lo (f9 + 1) k9 m9 L8 = rd_row tp w9 most lo f9 (k9 + 1) (m9 + 1) (sp_up L8 w9 m9 v8) := by
            conv => lhs; simp only [rd_row]
            rw [if_pos c9, hn, rd_b_ok, if_neg cm]
          have nm : ¬ nI m9 = nI most := fun c => cm (im.mp c)
          refine sX11_readRow_28 (Q0 := fun v M' => rm_v tp n9 Mq (.ok v8) (k9 + 1) v M') (Q1 := fun _ => True) hX nh (fun v9 Mq2 g9 c => absurd g9.2.1.z0 c) (fun v9 Mq2 g9 c => absurd g9.2.1.z0 c) (fun v9 Mq2 g9 c => absurd g9.2.1.z0 c) (fun v9 Mq2 g9 _ _ c => absurd g9.2.1.z0 c) (fun v9 Mq2 g9 _ _ _ => by rw [eix]; exact vp_in_nI (by omega) (by decide)) (fun v9 Mq2 g9 _ _ _ => ?_) (fun v9 Mq2 g9 _ c => absurd c nm) (fun v9 Mq2 g9 _ c => absurd c nm)
          rw [he, eix, cix, nI_1, g9.2.2]
          have x2 : rm_rX (pg_si Mq2 213 (b9 + m9) (nI v8)) a9 (sp_up L8 w9 m9 v8, X9.2) := rm_rX.row (X9 := (L8, X9.2)) (by show L8 4 0 ≤ 6; omega) (by show L8 4 4 ≤ 8; omega) (by omega) (hx.rf g9.1)
          refine ih9 (k9 + 1) (m9 + 1) (sp_up L8 w9 m9 v8) (pg_si Mq2 213 (b9 + m9) (nI v8)) (by omega) (by omega) (by rw [sp_up_ne (by omega)]; exact hL) (by rw [sp_up_ne (by omega)]; exact hL4) g9.2.1.s13 x2 (fun j9 hj => ?_) ((hf.trans g9.1.lf).trans (rm_lf.s13 (by omega)))
          rw [pg_si_at]
          by_cases z9 : j9 = m9
          · rw [z9, pk_us, sp_up_at]
          · rw [pk_un (by omega), sp_up_ne (fun c => z9 c.2), g9.1.1.1 213 (by decide)]
            exact hr j9 (by omega)
    refine sX11_readRow_3 hX (fun c => absurd hR.z0 c) (fun _ q9 => go (Or.inl (i0.mp q9))) (fun _ _ => hR.vin) (fun _ q9 q8 => ?_) (fun _ _ q8 => go (Or.inr (s2.mp q8)))
    refine ⟨_, rfl, ?_⟩
    have he : rd_row tp w9 most lo (f9 + 1) k9 m9 L8 = .ok (k9, m9, L8) := by
      simp only [rd_row]
      rw [if_neg]
      rintro (c | c)
      · exact q9 (i0.mpr c)
      · exact q8 (s2.mpr c)
    rw [he]
    exact ⟨hf, hR, rfl, hx, hr⟩
theorem rm_readRow {w9 b9 most lo f9 : Nat} (h6 : X9.1 4 0 ≤ 6) (h8 : X9.1 4 4 ≤ 8) (hw : w9 = 7 ∧ b9 = 168 ∧ most = 8 ∨ w9 = 5 ∧ b9 = 176 ∧ most = 12) (hf : most + 1 < f9) (hlo : lo < 2 ^ 31) (hX : pg_isX11 Λ) (hk : tk_ok tp) (hR : rm_R M tp n9 (.ok k9)) (hx : rm_rX M a9 X9) : pg_Ev S Λ YX11_readRow (d + 2) [.ref 207, .int (nI (b9 - 100)), .int (nI most), .int (nI lo)] M (fun q M' => ∃ v, q = some (.int v) ∧ rm_rp a9 n9 b9 w9 tp X9 M (rd_row tp w9 most lo f9 k9 0 X9.1) v M') :=
  oX11_readRow (sX11_readRow_0 (rm_readRow3 h6 h8 hw hlo hX hk f9 k9 0 X9.1 M (by omega) (by omega) rfl rfl hR hx (fun j9 hj => absurd hj (by omega)) rm_lf.rfl'))
end PGR
