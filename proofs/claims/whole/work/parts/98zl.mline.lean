/-! LINES: the reference's line -/
theorem rm_S.start0 {M M' : pg_M} {s9 : sp_N} (h : rm_S M 0 s9) (h1 : ∀ j9, j9 < 28 → M'.1 221 j9 = M.1 221 j9) : rm_S M' 0 s9 := h.off (fun j9 _ hj => h1 j9 (by omega))
section PGR
variable {S : pg_S} {Λ : pg_L} {d h : Nat} {M : pg_M} {G : sp_G}
/-- it begins anew -/
theorem rm_begins9 {L9 : sp_N} {E9 : sp_E} (hX : pg_isX11 Λ) (hl : rm_L M L9 E9) (ho : sp_okL L9 E9) : pg_Ev S Λ YX11_begins (d + 1) [.ref 207] M (fun q M' => q = none ∧ (rm_S M' 0 (sp_start L9) ∧ M'.1 221 28 = 0 ∧ M'.1 218 0 = 0 ∧ M'.1 207 23 = 0 ∧ (∀ m9, m9 < 4 → M'.1 222 m9 = 0) ∧ pg_fr [207, 218, 221, 222] M M' ∧ ∀ j9, j9 ≠ 23 → M'.1 207 j9 = M.1 207 j9)) := by
  have st := rm_starts (S := S) (Λ := Λ) (d := d) (b := 0) (by omega) hX hl ho
  refine oX11_begins (sX11_begins_0 (Q0 := fun M' => rm_S M' 0 (sp_start L9) ∧ pg_fr [221] M M' ∧ ∀ j, (j < 0 ∨ 0 + 28 ≤ j) → M'.1 221 j = M.1 221 j) hX st ?_)
  rintro Mq1 ⟨g1, g2, g3⟩
  rw [show (28 : Int32).toNatClampNeg = 28 by decide, show (0 : Int32).toNatClampNeg = 0 by decide]
  have i0 : rm_S (pg_si (pg_si (pg_si Mq1 221 28 0) 218 0 0) 207 23 0) 0 (sp_start L9) := g1.start0 (fun j9 hj => by rw [pg_si_ne (by decide), pg_si_ne (by decide), pg_si_at, pk_un (by omega)])
  refine pg_loop (fun i9 (mq : pg_M) => pg_At S Λ YX11_begins (d + 1) 27 [(0, .ref 207), (1, .int (nI i9))] [] mq _) (fun i9 mq => rm_S mq 0 (sp_start L9) ∧ mq.1 221 28 = 0 ∧ mq.1 218 0 = 0 ∧ mq.1 207 23 = 0 ∧ (∀ m9, m9 < i9 → mq.1 222 m9 = 0) ∧ pg_fr [207, 218, 221, 222] M mq ∧ ∀ j9, j9 ≠ 23 → mq.1 207 j9 = M.1 207 j9) 4 ?_ ?_ 0 _ (by omega) ⟨i0, by rw [pg_si_ne (by decide), pg_si_ne (by decide), pg_si_at, pk_us], by rw [pg_si_ne (by decide), pg_si_at, pk_us], by rw [pg_si_at, pk_us], fun m9 hm => absurd hm (by omega), (((g2.mono (by simp)).trans (pg_fr.si (by simp))).trans (pg_fr.si (by simp))).trans (pg_fr.si (by simp)), fun j9 hj => by rw [pg_si_at, pk_un hj, pg_si_ne (by decide), pg_si_ne (by decide), g2.1 207 (by decide)]⟩
  · rintro mq hm
    have cq : (4 : Int32) ≤ nI 4 := by decide
    exact sX11_begins_27 hX (fun _ => ⟨rfl, hm⟩) (fun c => absurd cq c) (fun c => absurd cq c)
  · rintro i9 mq hi ⟨a1, a2, a3, a4, a5, a6, a7⟩ ihq
    have cq : ¬ (4 : Int32) ≤ nI i9 := nI_ge hi (by decide)
    have hcl : (nI i9).toNatClampNeg = i9 := nI_clamp (by omega)
    refine sX11_begins_27 hX (fun c => absurd c cq) (fun _ => vp_in_nI hi (by decide)) (fun _ => ?_)
    rw [nI_1, hcl]
    refine ihq _ ⟨a1.start0 (fun j9 _ => by rw [pg_si_ne (by decide)]), by rw [pg_si_ne (by decide)]; exact a2, by rw [pg_si_ne (by decide)]; exact a3, by rw [pg_si_ne (by decide)]; exact a4, fun m9 hm => ?_, a6.trans (pg_fr.si (by simp)), fun j9 hj => by rw [pg_si_ne (by decide)]; exact a7 j9 hj⟩
    rw [pg_si_at]
    by_cases z9 : m9 = i9
    · rw [z9, pk_us]; rfl
    · rw [pk_un z9]; exact a5 m9 (by omega)
/-- the line that was read is taken: what lies where then -/
def rm_tk9 (a9 m9 : Nat) (M M' : pg_M) : Prop := (∀ j9, j9 < 100 → M'.1 213 j9 = M.1 213 (100 + j9)) ∧ (∀ j9, j9 < a9 → M'.1 214 j9 = M.1 214 (1100 + j9) ∧ M'.1 215 j9 = M.1 215 (1100 + j9)) ∧ (∀ c9, c9 < m9 → M'.2.1 216 c9 = M.2.1 217 c9) ∧ pg_fr [213, 214, 215, 216] M M'
theorem rm_line184 {P9 : Option Value → pg_M → Prop} {a9 m9 : Nat} (hm : m9 ≤ 6) (hX : pg_isX11 Λ) (h17 : M.1 207 17 = nI m9) (hp : ∀ Mq, rm_tk9 a9 m9 M Mq → pg_Ev S Λ YX11_begins d [.ref 207] (pg_si Mq 207 16 (nI m9)) (fun q M' => q = none ∧ P9 (some (.int 0)) M')) {Mq0 : pg_M} (h0 : rm_tk9 a9 0 M Mq0) : pg_At S Λ YX11_line (d + 1) 184 [(0, .ref 207), (1, .int (nI 0))] [] Mq0 P9 := by
  refine pg_loop (fun i9 (mq : pg_M) => pg_At S Λ YX11_line (d + 1) 184 [(0, .ref 207), (1, .int (nI i9))] [] mq P9) (fun i9 mq => rm_tk9 a9 i9 M mq) m9 ?_ ?_ 0 Mq0 (Nat.zero_le _) h0
  · rintro mq g9
    have e17 : mq.1 207 17 = nI m9 := by rw [g9.2.2.2.1 207 (by decide)]; exact h17
    have cq : mq.1 207 17 ≤ nI m9 := by rw [e17]; exact nI_le (Nat.le_refl _) (by omega)
    exact sX11_line_184 (Q0 := fun M' => P9 (some (.int 0)) M') hX (fun _ => by rw [e17]; exact hp mq g9) (fun _ Mq1 y9 => y9) (fun c => absurd cq c) (fun c => absurd cq c)
  · rintro i9 mq hi ⟨a1, a2, a3, a4⟩ ihq
    have e17 : mq.1 207 17 = nI m9 := by rw [a4.1 207 (by decide)]; exact h17
    have cq : ¬ mq.1 207 17 ≤ nI i9 := by rw [e17]; exact nI_ge hi (by omega)
    have hcl : (nI i9).toNatClampNeg = i9 := nI_clamp (by omega)
    refine sX11_line_184 (Q0 := fun _ => True) hX (fun c => absurd c cq) (fun c => absurd c cq) (fun _ => vp_in_nI (by omega) (by decide)) (fun _ => ?_)
    rw [nI_1, hcl]
    have e6 : (pg_sj mq 216 i9 (mq.2.1 217 i9)).2.1 216 = vp_updL (mq.2.1 216) i9 (mq.2.1 217 i9) := by simp [pg_sj]
    refine ihq _ ⟨a1, a2, fun c9 hc => ?_, a4.trans (pg_fr.sj (by simp))⟩
    rw [e6]
    by_cases z9 : c9 = i9
    · rw [z9, pk_uLs, a4.2.1 217 (by decide)]
    · rw [pk_uLn z9]; exact a3 c9 (by omega)
theorem rm_line107 {P9 : Option Value → pg_M → Prop} {a9 m9 : Nat} (hm : m9 ≤ 6) (ha : a9 ≤ 1000) (hX : pg_isX11 Λ) (h17 : M.1 207 17 = nI m9) (h13 : M.1 207 13 = nI a9) (hp : ∀ Mq, rm_tk9 a9 m9 M Mq → pg_Ev S Λ YX11_begins d [.ref 207] (pg_si Mq 207 16 (nI m9)) (fun q M' => q = none ∧ P9 (some (.int 0)) M')) : pg_At S Λ YX11_line (d + 1) 107 [(0, .ref 207), (1, .int 0)] [] M P9 := by
  refine pg_loop (fun i9 (mq : pg_M) => pg_At S Λ YX11_line (d + 1) 107 [(0, .ref 207), (1, .int (nI i9))] [] mq P9) (fun i9 mq => (∀ j9, j9 < i9 → mq.1 213 j9 = M.1 213 (100 + j9)) ∧ (∀ j9, 100 ≤ j9 → mq.1 213 j9 = M.1 213 j9) ∧ pg_fr [213] M mq) 100 ?_ ?_ 0 M (by omega) ⟨fun j9 hj => absurd hj (by omega), fun _ _ => rfl, pg_fr.rfl'⟩
  · rintro mq ⟨a1, a2, a3⟩
    have cq : (100 : Int32) ≤ nI 100 := by decide
    refine sX11_line_107 hX (fun _ => ?_) (fun c => absurd cq c) (fun c => absurd cq c) (fun c => absurd cq c)
    refine pg_loop (fun i9 (mr : pg_M) => pg_At S Λ YX11_line (d + 1) 136 [(0, .ref 207), (1, .int (nI i9))] [] mr P9) (fun i9 mr => (∀ j9, j9 < i9 → mr.1 214 j9 = M.1 214 (1100 + j9) ∧ mr.1 215 j9 = M.1 215 (1100 + j9)) ∧ (∀ j9, 1100 ≤ j9 → mr.1 214 j9 = M.1 214 j9 ∧ mr.1 215 j9 = M.1 215 j9) ∧ pg_fr [214, 215] mq mr) a9 ?_ ?_ 0 mq (by omega) ⟨fun j9 hj => absurd hj (by omega), fun j9 _ => ⟨by rw [a3.1 214 (by decide)], by rw [a3.1 215 (by decide)]⟩, pg_fr.rfl'⟩
    · rintro mr ⟨b1, b2, b3⟩
      have e13 : mr.1 207 13 = nI a9 := by rw [b3.1 207 (by decide), a3.1 207 (by decide)]; exact h13
      have cq : mr.1 207 13 ≤ nI a9 := by rw [e13]; exact nI_le (Nat.le_refl _) (by omega)
      refine sX11_line_136 hX (fun _ => ?_) (fun c => absurd cq c) (fun c => absurd cq c) (fun c => absurd cq c)
      exact rm_line184 (a9 := a9) hm hX h17 hp ⟨fun j9 hj => by rw [b3.1 213 (by decide)]; exact a1 j9 hj, b1, fun c9 hc => absurd hc (by omega), (a3.mono (by simp)).trans (b3.mono (by simp))⟩
    · rintro i9 mr hi ⟨b1, b2, b3⟩ ihq
      have e13 : mr.1 207 13 = nI a9 := by rw [b3.1 207 (by decide), a3.1 207 (by decide)]; exact h13
      have cq : ¬ mr.1 207 13 ≤ nI i9 := by rw [e13]; exact nI_ge hi (by omega)
      have hcl : (nI i9).toNatClampNeg = i9 := nI_clamp (by omega)
      have e11 : (1100 : Int32) + nI i9 = nI (1100 + i9) := by rw [show (1100 : Int32) = nI 1100 from rfl, nI_add]
      have hc2 : (nI (1100 + i9)).toNatClampNeg = 1100 + i9 := nI_clamp (by omega)
      refine sX11_line_136 hX (fun c => absurd c cq) (fun _ => by rw [e11]; exact vp_in_nI (by omega) (by decide)) (fun _ => vp_in_nI (by omega) (by decide)) (fun _ Nq1 eq1 => ?_)
      rw [nI_1]
      rw [e11, hcl, hc2, pg_si_ne (show (215 : Nat) ≠ 214 by decide)] at eq1
      have r4 : Nq1.1 214 = upd (mr.1 214) i9 (mr.1 214 (1100 + i9)) := by rw [eq1, pg_si_ne (by decide), pg_si_at]
      have r5 : Nq1.1 215 = upd (mr.1 215) i9 (mr.1 215 (1100 + i9)) := by rw [eq1, pg_si_at, pg_si_ne (by decide)]
      refine ihq _ ⟨fun j9 hj => ?_, fun j9 hj => ?_, b3.trans (by rw [eq1]; exact (pg_fr.si (by simp)).trans (pg_fr.si (by simp)))⟩
      · rw [r4, r5]
        by_cases z9 : j9 = i9
        · rw [z9, pk_us, pk_us]; exact b2 (1100 + i9) (by omega)
        · rw [pk_un z9, pk_un z9]; exact b1 j9 (by omega)
      · rw [r4, r5, pk_un (by omega), pk_un (by omega)]; exact b2 j9 hj
  · rintro i9 mq hi ⟨a1, a2, a3⟩ ihq
    have cq : ¬ (100 : Int32) ≤ nI i9 := nI_ge hi (by decide)
    have hcl : (nI i9).toNatClampNeg = i9 := nI_clamp (by omega)
    have e11 : (100 : Int32) + nI i9 = nI (100 + i9) := by rw [show (100 : Int32) = nI 100 from rfl, nI_add]
    have hc2 : (nI (100 + i9)).toNatClampNeg = 100 + i9 := nI_clamp (by omega)
    refine sX11_line_107 hX (fun c => absurd c cq) (fun _ => by rw [e11]; exact vp_in_nI (by omega) (by decide)) (fun _ => vp_in_nI (by omega) (by decide)) (fun _ => ?_)
    rw [nI_1, e11, hcl, hc2]
    refine ihq _ ⟨fun j9 hj => ?_, fun j9 hj => ?_, a3.trans (pg_fr.si (by simp))⟩
    · rw [pg_si_at]
      by_cases z9 : j9 = i9
      · rw [z9, pk_us]; exact a2 (100 + i9) (by omega)
      · rw [pk_un z9]; exact a1 j9 (by omega)
    · rw [pg_si_at, pk_un (by omega)]; exact a2 j9 hj
/-- the line that was taken -/
theorem rm_rX.taken {Mq : pg_M} {a9 m9 : Nat} {X9 : rd_X} (ho : rd_ok X9) (ha : a9 ≤ 1000) (hx : rm_rX M a9 X9) (g : rm_tk9 a9 m9 M Mq) : rm_L Mq X9.1 X9.2.1 := by
  obtain ⟨⟨a1, a2, a3, a4, a5, a6, a7, a8, a9', a10, a11, a12, a13, a14⟩, c1, c2⟩ := hx
  obtain ⟨g1, g2, g3, g4⟩ := g
  obtain ⟨o1, o2, o3, o4, o5, o6, o7, o8, o9, o10⟩ := ho.1
  have ee : ∀ q9, q9 < 2 → rm_rE M a9 q9 (X9.2.1 q9) → rm_E Mq q9 (X9.2.1 q9) := fun q9 hq he => by
    rcases he with ⟨h1, h2⟩ | ⟨fr, h1, h2, h3, h4⟩
    · exact Or.inl ⟨by rw [g1 _ (by omega), show 100 + (6 + q9) = 106 + q9 by omega]; exact h1, h2⟩
    · refine Or.inr ⟨fr, by rw [g1 _ (by omega), show 100 + (6 + q9) = 106 + q9 by omega]; exact h1, by omega, by rw [(g2 _ h2).1]; exact h3, fun j9 e9 hj => ?_⟩
      have hl := (List.getElem?_eq_some_iff.mp hj).1
      rw [(g2 (fr + j9) (by omega)).1, (g2 (fr + j9) (by omega)).2]
      exact h4 j9 e9 hj
  refine ⟨by rw [g1 _ (by omega)]; exact a1, by rw [g1 _ (by omega)]; exact a2, by rw [g1 _ (by omega)]; exact a3, by rw [g1 _ (by omega)]; exact a4, by rw [g1 _ (by omega)]; exact a5, by rw [g1 _ (by omega)]; exact a6, fun c9 k9 hc hk => ?_, fun x9 y9 hx hy => ?_, fun p9 hp => ?_, fun j9 hj => ?_, ee 0 (by omega) a11, ee 1 (by omega) a12⟩
  · rw [g1 _ (by omega), show 100 + (8 + 4 * c9 + k9) = 108 + 4 * c9 + k9 by omega]; exact a7 c9 k9 hc hk
  · rw [g1 _ (by omega), show 100 + (32 + 6 * x9 + y9) = 132 + 6 * x9 + y9 by omega]; exact a8 x9 y9 hx hy
  · rw [g1 _ (by omega), show 100 + (68 + p9) = 168 + p9 by omega]; exact a9' p9 hp
  · rw [g1 _ (by omega), show 100 + (76 + j9) = 176 + j9 by omega]; exact a10 j9 hj
/-- the line stays as it was -/
theorem rm_L.stays {M' : pg_M} {L9 : sp_N} {E9 : sp_E} (hl : rm_L M L9 E9) (ho : sp_okL L9 E9) (h1 : ∀ j9, j9 < 100 → M'.1 213 j9 = M.1 213 j9) (h2 : ∀ j9, j9 < 1100 → M'.1 214 j9 = M.1 214 j9 ∧ M'.1 215 j9 = M.1 215 j9) : rm_L M' L9 E9 := by
  obtain ⟨o1, o2, o3, o4, o5, o6, o7, o8, o9, o10⟩ := ho
  obtain ⟨a1, a2, a3, a4, a5, a6, a7, a8, a9', a10, a11, a12⟩ := hl
  have ee : ∀ q9, q9 < 2 → rm_E M q9 (E9 q9) → rm_E M' q9 (E9 q9) := fun q9 hq he => by
    rcases he with ⟨z1, z2⟩ | ⟨fr, z1, z2, z3, z4⟩
    · exact Or.inl ⟨by rw [h1 _ (by omega)]; exact z1, z2⟩
    · refine Or.inr ⟨fr, by rw [h1 _ (by omega)]; exact z1, z2, by rw [(h2 _ z2).1]; exact z3, fun j9 e9 hj => ?_⟩
      have hl := (List.getElem?_eq_some_iff.mp hj).1
      rw [(h2 (fr + j9) (by omega)).1, (h2 (fr + j9) (by omega)).2]
      exact z4 j9 e9 hj
  refine ⟨by rw [h1 _ (by omega)]; exact a1, by rw [h1 _ (by omega)]; exact a2, by rw [h1 _ (by omega)]; exact a3, by rw [h1 _ (by omega)]; exact a4, by rw [h1 _ (by omega)]; exact a5, by rw [h1 _ (by omega)]; exact a6, fun c9 k9 hc hk => ?_, fun x9 y9 hx hy => ?_, fun p9 hp => ?_, fun j9 hj => ?_, ee 0 (by omega) a11, ee 1 (by omega) a12⟩
  · rw [h1 _ (by omega)]; exact a7 c9 k9 hc hk
  · rw [h1 _ (by omega)]; exact a8 x9 y9 hx hy
  · rw [h1 _ (by omega)]; exact a9' p9 hp
  · rw [h1 _ (by omega)]; exact a10 j9 hj
/-- a reading that failed -/
theorem rm_G.lost {M' : pg_M} (hg : rm_G M G) (ho : sp_okL G.L G.E) (h1 : ∀ b, b ∈ [218, 221, 222] → M'.1 b = M.1 b) (h2 : ∀ b, b ∈ [212, 216] → M'.2.1 b = M.2.1 b) (h3 : ∀ j, j ∈ [16, 23] → M'.1 207 j = M.1 207 j) (h4 : ∀ j9, j9 < 100 → M'.1 213 j9 = M.1 213 j9) (h5 : ∀ j9, j9 < 1100 → M'.1 214 j9 = M.1 214 j9 ∧ M'.1 215 j9 = M.1 215 j9) (h6 : M'.1 207 2 = 0) : rm_G M' (G.tape []) := by
  obtain ⟨gl, gn, gs, gf, gu, gm, gp, gt, gw⟩ := hg
  have h21 := h1 221 (by simp)
  refine ⟨gl.stays ho h4 h5, ⟨by rw [h3 16 (by simp)]; exact gn.1, fun c hc => by rw [h2 216 (by simp)]; exact gn.2 c hc⟩, gs.off (fun j a b => by rw [h21]), gf.off (fun j a b => by rw [h21]), gu.fr (h3 23 (by simp)) (fun j a b => by rw [h21]), fun m hm => ⟨by rw [h1 222 (by simp)]; exact (gm m hm).1, fun t f q => ⟨((gm m hm).2 t f q).1.off (fun j a b => by rw [h21]), ((gm m hm).2 t f q).2.off (fun j a b => by rw [h21])⟩⟩, ?_, ⟨h6, fun j c hj => by simp [sp_G.tape_tp] at hj⟩, fun k w q => by rw [h2 212 (by simp)]; exact gw k w q⟩
  show rm_P M' G.pl
  unfold rm_P at *
  rw [h1 218 (by simp)]
  exact gp
theorem rm_line (hX : pg_isX11 Λ) (hg : rm_G M G) (hk : sp_okG G h) : pg_Ev S Λ YX11_line (d + 36) [.ref 207] M (fun r M' => ∃ v, r = some (.int v) ∧ (v = (sp_qline G).1 ∧ rm_G M' (sp_qline G).2 ∧ pg_fr rm_X M M')) := by
  have hg0 := hg.th
  have ht := hk.tk
  have ct := pg_Ev.mono (d' := d + 35) (by omega) (rm_cutAll (S := S) (Λ := Λ) (d := d) (M := pg_si M 207 0 0) hX ht hg0.t hg0.W)
  refine oX11_line (sX11_line_0 (Q0 := fun M' => ∃ n9, rm_R M' G.tp n9 (.ok 0) ∧ M'.1 207 2 = 0 ∧ pg_fr [207, 209, 210, 211] (pg_si M 207 0 0) M' ∧ ∀ j9, j9 ≠ 2 → j9 ≠ 3 → j9 ≠ 7 → j9 ≠ 8 → M'.1 207 j9 = (pg_si M 207 0 0).1 207 j9) (Q1 := fun M' => ∃ n9, rm_R M' G.tp n9 (.ok 0) ∧ rm_rX M' 0 rd_X0 ∧ M'.1 207 2 = 0 ∧ pg_fr [207, 209, 210, 211, 213] M M' ∧ (∀ j9, j9 ∈ [16, 23] → M'.1 207 j9 = M.1 207 j9) ∧ ∀ j9, j9 < 100 → M'.1 213 j9 = M.1 213 j9) hX ct ?_ ?_)
  · rintro Mq1 ⟨n9, g1, g2, g3, g4⟩
    refine pg_Ev.imp ?_ (rm_stands (S := S) (d := d + 35) (b9 := 100) (by omega) hX)
    rintro q7 M9 ⟨y1, y2, y3, y4⟩
    have r7 : ∀ j9, M9.1 207 j9 = (pg_si (pg_si (pg_si Mq1 207 13 0) 207 17 0) 207 18 0).1 207 j9 := fun j9 => by rw [y4.1 207 (by decide)]
    have rr : rm_R (pg_si (pg_si (pg_si Mq1 207 13 0) 207 17 0) 207 18 0) G.tp n9 (.ok 0) := ((g1.s07 (by decide) (by decide)).s07 (by decide) (by decide)).s07 (by decide) (by decide)
    refine ⟨y1, n9, rr.fr9 (y4.1 209 (by decide)) (y4.1 210 (by decide)) (y4.2.1 211 (by decide)) (y4.2.1 212 (by decide)) (r7 7) (r7 8), rm_rX.zero y2 ?_ ?_ ?_, ?_, ?_, fun j9 hj => ?_, fun j9 hj => ?_⟩
    · rw [r7, pg_si_at, pk_un (by decide), pg_si_at, pk_un (by decide), pg_si_at, pk_us]
    · rw [r7, pg_si_at, pk_un (by decide), pg_si_at, pk_us]
    · rw [r7, pg_si_at, pk_us]
    · rw [r7, pg_si_at, pk_un (by decide), pg_si_at, pk_un (by decide), pg_si_at, pk_un (by decide)]; exact g2
    · exact (((((pg_fr.si (by simp)).trans (g3.mono (by simp))).trans (pg_fr.si (by simp))).trans (pg_fr.si (by simp))).trans (pg_fr.si (by simp))).trans (y4.mono (by simp))
    · simp at hj
      rw [r7, pg_si_at, pk_un (by omega), pg_si_at, pk_un (by omega), pg_si_at, pk_un (by omega), g4 j9 (by omega) (by omega) (by omega) (by omega), pg_si_at, pk_un (by omega)]
    · rw [y3 j9 (by omega), pg_si_ne (by decide), pg_si_ne (by decide), pg_si_ne (by decide), g3.1 213 (by decide), pg_si_ne (by decide)]
  · rintro Mq1 _ Mq2 ⟨n9, g1, g2, g3, g4, g5, g6⟩
    refine rm_line30 (M := Mq2) (n9 := n9) hX ht (G.tp.length + 1) 0 0 rd_X0 Mq2 (Nat.le_refl _) (Nat.zero_le _) (by omega) rd_X0_ok g1 g2 rm_lf.rfl' ?_ ?_
    · intro Y9 a8 Mq3 hq ha hx hf
      have ho : rd_ok Y9 := rd_line_ok hq
      have eq9 : sp_qline G = (0, (Y9.1, Y9.2.1, Y9.2.2.1, sp_start Y9.1, [], fun _ => none, [], [], [])) := by unfold sp_qline; rw [show rd_line G.tp = .ok Y9 from hq]; rfl
      rw [eq9]
      have la : a8 ≤ 1000 := by have := ht.1; omega
      have h6 := ho.1.1
      refine rm_line107 (m9 := Y9.1 4 0) h6 la hX hx.2.1 hx.1.2.2.2.2.2.2.2.2.2.2.2.2.1 (fun Mq tk => ?_)
      have hl : rm_L Mq Y9.1 Y9.2.1 := hx.taken ho la tk
      have hl2 : rm_L (pg_si Mq 207 16 (nI (Y9.1 4 0))) Y9.1 Y9.2.1 := hl.stays ho.1 (fun j9 _ => by rw [pg_si_ne (by decide)]) (fun j9 _ => ⟨by rw [pg_si_ne (by decide)], by rw [pg_si_ne (by decide)]⟩)
      refine pg_Ev.mono (by omega) (pg_Ev.imp ?_ (rm_begins9 (S := S) (d := d) hX hl2 ho.1))
      rintro q7 M9 ⟨y1, y2, y3, y4, y5, y6, y7, y8⟩
      obtain ⟨k1, k2, k3, k4⟩ := tk
      have w9 : ∀ (k : Nat) (w : List Nat), sp_words[k]? = some w → M9.2.1 212 k = lN (sp_w 37 w) := fun k w q => by
        rw [y7.2.1 212 (by decide)]
        show Mq.2.1 212 k = _
        rw [k4.2.1 212 (by decide), hf.1.2.1 212 (by decide), g4.2.1 212 (by decide)]
        exact hg.w k w q
      refine ⟨y1, _, rfl, rfl, ⟨?_, ⟨?_, fun c9 hc => ?_⟩, y2, ⟨y3, Nat.zero_le _, fun j9 e9 hj => by simp [sp_G.fl] at hj⟩, ⟨y5, Nat.zero_le _, fun j9 e9 hj => by simp [sp_G.us] at hj⟩, fun m9 hm => ⟨by rw [y6 m9 hm]; rfl, fun t9 f9 hc => by cases hc⟩, ⟨y4, fun j9 e9 hj => by simp [sp_G.pl] at hj⟩, ⟨?_, fun j9 c9 hj => by simp [sp_G.tp] at hj⟩, w9⟩, ?_⟩
      · exact hl2.stays ho.1 (fun j9 _ => by rw [y7.1 213 (by decide)]) (fun j9 _ => ⟨by rw [y7.1 214 (by decide)], by rw [y7.1 215 (by decide)]⟩)
      · rw [y8 16 (by decide), pg_si_at, pk_us]; rfl
      · rw [y7.2.1 216 (by decide)]
        show Mq.2.1 216 c9 = _
        rw [k3 c9 hc]; exact hx.2.2 c9 hc
      · rw [y8 2 (by decide), pg_si_at, pk_un (by decide), k4.1 207 (by decide), hf.2.1 2 (by decide) (by decide) (by decide) (by decide) (by decide), g3]; rfl
      · exact ((((g4.mono (by simp [rm_X])).trans (hf.1.mono (by simp [rm_X]))).trans (k4.mono (by simp [rm_X]))).trans (pg_fr.si (by simp [rm_X]))).trans (y7.mono (by simp [rm_X]))
    · intro e9 Mq3 hq hR hf
      have eq9 : sp_qline G = (nI e9, G.tape []) := by unfold sp_qline; rw [show rd_line G.tp = .error e9 from hq]
      rw [eq9]
      refine ⟨_, rfl, rfl, hg.lost hk.l (fun b hb => ?_) (fun b hb => ?_) (fun j hj => ?_) (fun j9 hj => ?_) (fun j9 hj => ?_) ?_, (g4.mono (by simp [rm_X])).trans (hf.1.mono (by simp [rm_X]))⟩
      · simp at hb
        rw [hf.1.1 b (by simp; omega), g4.1 b (by simp; omega)]
      · simp at hb
        rw [hf.1.2.1 b (by simp; omega), g4.2.1 b (by simp; omega)]
      · simp at hj
        rw [hf.2.1 j (by omega) (by omega) (by omega) (by omega) (by omega), g5 j (by simp; omega)]
      · rw [hf.2.2.1 j9 hj, g6 j9 hj]
      · rw [(hf.2.2.2 j9 hj).1, (hf.2.2.2 j9 hj).2, g4.1 214 (by decide), g4.1 215 (by decide)]
        exact ⟨rfl, rfl⟩
      · rw [hf.2.1 2 (by decide) (by decide) (by decide) (by decide) (by decide)]; exact g3
end PGR
