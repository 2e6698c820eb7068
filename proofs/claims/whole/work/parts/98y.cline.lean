/-! LINES: the class reads a line and takes it -/
def sp_qline (G : sp_G) : Int32 × sp_G := match rd_line G.tp with
  | .error e9 => (nI e9, G.tape [])
  | .ok X9 => (0, (X9.1, X9.2.1, X9.2.2.1, sp_start X9.1, [], fun _ => none, [], [], []))
theorem sp_okG.tk {G : sp_G} {h : Nat} (hk : sp_okG G h) : tk_ok G.tp := by
  refine ⟨hk.t.1, fun j9 c9 hj => ?_⟩
  have := hk.t.2 c9 (List.mem_of_getElem? hj)
  omega
section PGR
variable {S : pg_S} {Λ : pg_L} {d k9 l9 : Nat} {M : pg_M} {tp : List Nat} {X9 : rd_X}
theorem rc_rbegin (hX : pg_isX7 Λ) (hk : tk_ok tp) (hT : rc_T M tp) : pg_Ev S Λ YX7_begin (d + 4) [.ref 1] M (fun q M' => q = none ∧ (rc_R M' tp (.ok 0) ∧ rc_rf M M')) := by
  have nx := rc_next (S := S) (Λ := Λ) (d := d) (tp := tp) (b9 := 0) (M := pg_si (pg_si M 1 9 0) 1 3 0) hX (by
    unfold rc_T at hT ⊢
    rw [pg_si_at, pk_un (by decide), pg_si_at, pk_un (by decide), pg_si_ne (by decide), pg_si_ne (by decide)]
    exact hT) hk (Nat.zero_le _) (by rw [pg_si_at, pk_us]; rfl) (by rw [pg_si_at, pk_un (by decide), pg_si_at, pk_us])
  refine oX7_begin (sX7_begin_0 (Q0 := fun M' => rc_R M' tp (.ok 0) ∧ rc_rf M M') hX (pg_Ev.imp ?_ nx) (fun Mq1 g9 => ⟨rfl, g9⟩))
  rintro q9 M9 ⟨e1, e2, e3, e4, e5⟩
  have f9 : rc_rf M (pg_si (pg_si M 1 9 0) 1 3 0) := ⟨(pg_fr.si (by simp)).trans (pg_fr.si (by simp)), fun j9 _ a2 _ _ _ a6 => by rw [pg_si_at, pk_un a2, pg_si_at, pk_un a6]⟩
  refine ⟨e1, ⟨e5.t ?_, ?_, e2, e3, e4⟩, f9.trans e5.rf⟩
  · unfold rc_T at hT ⊢
    rw [pg_si_at, pk_un (by decide), pg_si_at, pk_un (by decide), pg_si_ne (by decide), pg_si_ne (by decide)]
    exact hT
  · rw [e5.2 9 (by decide) (by decide) (by decide) (by decide) (by decide), pg_si_at, pk_un (by decide), pg_si_at, pk_us]
/-- what a line's reading ends in -/
def rc_le (l9 : Nat) (M : pg_M) (x9 : Except Nat rd_X) (v9 : Int32) (M' : pg_M) : Prop := rc_lf l9 M M' ∧ M'.1 1 1 = 0 ∧ match x9 with
  | .error e9 => v9 = nI e9 ∧ 0 < e9 ∧ e9 < 2 ^ 20
  | .ok X9 => v9 = 0 ∧ rc_L M' l9 X9.1 X9.2.1 ∧ rc_N M' l9 (X9.1 4 0) X9.2.2.1
theorem rc_readLine15 (hl : 3 ≤ l9) (hX : pg_isX7 Λ) (h5 : pg_isX5 Λ l9) (hk : tk_ok tp) : ∀ f9 k9 i9 X9 Mq, i9 ≤ k9 → k9 ≤ tp.length → tp.length < f9 + k9 → rd_ok X9 → rc_R Mq tp (.ok k9) → rc_rX Mq l9 X9 → rc_lf l9 M Mq → pg_At S Λ YX7_readLine (d + 36) 15 [(0, .ref 1), (1, .ref l9), (2, .int (nI i9))] [] Mq (fun q M' => ∃ v, q = some (.int v) ∧ rc_le l9 M (rd_lines tp f9 k9 X9) v M') := by
  have hlen := hk.1
  have ends : ∀ Mq, rc_lf l9 M Mq → rc_lf l9 M (pg_si Mq 1 1 0) ∧ (pg_si Mq 1 1 0).1 1 1 = 0 ∧ (pg_si Mq 1 1 0).1 1 9 = Mq.1 1 9 := fun Mq g => ⟨g.trans rc_lf.s1, by rw [pg_si_at, pk_us], by rw [pg_si_at, pk_un (by decide)]⟩
  intro f9
  induction f9 with
  | zero => intro k9 i9 X9 Mq _ h1 h2; omega
  | succ f9 ih9 =>
    intro k9 i9 X9 Mq hi h1 h2 ho hR hx hf
    have s0 := hR.tk.s0 (c9 := 0) hk (by omega)
    obtain ⟨n1, n2, n3⟩ := ends Mq hf
    have fin9 : (tk_tok tp k9).1 = 0 → ∃ v, (some (Value.int ((pg_si Mq 1 1 0).1 1 9))) = some (.int v) ∧ rc_le l9 M (rd_lines tp (f9 + 1) k9 X9) v (pg_si Mq 1 1 0) := fun c9 => by
      refine ⟨_, rfl, n1, n2, ?_⟩
      simp only [rd_lines]
      rw [if_pos c9]
      refine ⟨by rw [n3]; exact hR.f0, hx.1.fr (fun j9 _ _ _ => pg_si_ne (by omega)), hx.2.1⟩
    by_cases c9 : (tk_tok tp k9).1 = 0
    · exact sX7_readLine_15 (Q0 := fun _ => True) hX (fun _ => fin9 c9) (fun _ c => absurd hR.f0 c) (fun _ _ _ => fin9 c9) (fun _ _ c => absurd (s0.mpr c9) c) (fun _ _ c => absurd (s0.mpr c9) c)
    · have kl : k9 < tp.length := tk_in c9
      have ci : ¬ (1000 : Int32) ≤ nI i9 := nI_ge (show i9 < 1000 by omega) (by decide)
      have m0 : ¬ Mq.1 1 4 = 0 := fun c => c9 (s0.mp c)
      have he : rd_lines tp (f9 + 1) k9 X9 = rd_b (rd_semi tp (rd_stmt tp k9 X9)) (fun r9 => rd_lines tp f9 r9.1 r9.2) := by
        conv => lhs; simp only [rd_lines]
        rw [if_neg c9]
      refine sX7_readLine_15 (Q0 := fun M' => rc_lp l9 tp M (rd_semi tp (rd_stmt tp k9 X9)) M') hX (fun c => absurd c ci) (fun _ c => absurd hR.f0 c) (fun _ _ c => absurd c m0) (fun _ _ _ => ?_) (fun _ _ _ Mq1 g9 => ?_)
      · refine pg_Ev.imp ?_ (rc_readTold (S := S) (d := d) hl hX h5 hk ho hR hx)
        rintro q7 M9 ⟨y1, y2, y3⟩
        exact ⟨y1, hf.trans y2, y3⟩
      · obtain ⟨g1, g2⟩ := g9
        rw [nI_1, he]
        cases hs : rd_semi tp (rd_stmt tp k9 X9) with
        | error e9 =>
          rw [hs] at g2
          obtain ⟨m1, m2, m3⟩ := ends Mq1 g1
          have fin8 : ∃ v, (some (Value.int ((pg_si Mq1 1 1 0).1 1 9))) = some (.int v) ∧ rc_le l9 M (rd_b (.error e9) (fun r9 : Nat × rd_X => rd_lines tp f9 r9.1 r9.2)) v (pg_si Mq1 1 1 0) := by
            refine ⟨_, rfl, m1, m2, ?_⟩
            rw [rd_b_er]
            obtain ⟨_, z1, z2, z3⟩ := g2
            exact ⟨by rw [m3]; exact z1, z2, z3⟩
          exact sX7_readLine_15 (Q0 := fun _ => True) hX (fun _ => fin8) (fun _ _ => fin8) (fun _ c => absurd c g2.f1) (fun _ c => absurd c g2.f1) (fun _ c => absurd c g2.f1)
        | ok p9 =>
          rw [hs] at g2
          obtain ⟨z1, z2, z3⟩ := rd_stmt_ok ho hs
          rw [rd_b_ok]
          exact ih9 p9.1 (i9 + 1) p9.2 Mq1 (by omega) z3 (by omega) z1 g2.1 g2.2 g1
theorem rc_readLine (hl : 3 ≤ l9) (hX : pg_isX7 Λ) (h5 : pg_isX5 Λ l9) (hk : tk_ok tp) (hT : rc_T M tp) : pg_Ev S Λ YX7_readLine (d + 36) [.ref 1, .ref l9] M (fun q M' => ∃ v, q = some (.int v) ∧ rc_le l9 M (rd_line tp) v M') := by
  refine oX7_readLine (sX7_readLine_0 (Q0 := fun M' => rc_L M' l9 rd_X0.1 rd_X0.2.1 ∧ rc_T M' tp ∧ rc_lf l9 M M') (Q1 := fun M' => rc_R M' tp (.ok 0) ∧ rc_rX M' l9 rd_X0 ∧ rc_lf l9 M M') h5 hX ?_ ?_ ?_)
  · refine pg_Ev.mono (by omega) (pg_Ev.imp ?_ (rc_lclear (S := S) (d := d) hl h5))
    rintro q7 M9 ⟨y1, y2, y3⟩
    refine ⟨y1, y2, ?_, pg_pf.of y3 (fun b9 hb => by simp at hb; unfold rc_lq; omega)⟩
    unfold rc_T at hT ⊢
    rw [y3.1 1 (by simp; omega), y3.1 2 (by simp; omega)]
    exact hT
  · rintro Mq1 ⟨g1, g2, g3⟩
    have t9 : rc_T (pg_si Mq1 1 8 0) tp := by
      unfold rc_T at g2 ⊢
      rw [pg_si_at, pk_un (by decide), pg_si_ne (by decide)]
      exact g2
    refine pg_Ev.mono (by omega) (pg_Ev.imp ?_ (rc_rbegin (S := S) (d := d) hX hk t9))
    rintro q7 M9 ⟨y1, y2, y3⟩
    have x0 : rc_rX (pg_si Mq1 1 8 0) l9 rd_X0 := ⟨g1.fr (fun j9 _ _ _ => pg_si_ne (by omega)), fun c9 hc => absurd hc (by show ¬ c9 < 0; omega), by rw [pg_si_at, pk_us]; rfl⟩
    exact ⟨y1, y2, x0.rf y3 hl, (g3.trans rc_lf.s1).trans y3.lf⟩
  · rintro Mq1 _ Mq2 ⟨g1, g2, g3⟩
    exact rc_readLine15 hl hX h5 hk (tp.length + 1) 0 0 rd_X0 Mq2 (Nat.le_refl _) (Nat.zero_le _) (by omega) rd_X0_ok g1 g2 g3
theorem rc_pclear (hX : pg_isX6 Λ) : pg_Ev S Λ YX6_clear d [.ref 19] M (fun q M' => q = none ∧ (M'.1 19 5 = 0 ∧ M'.1 19 4 = M.1 19 4 ∧ (∀ m9, m9 < 4 → M'.1 23 m9 = 0) ∧ pg_fr [19, 23] M M')) := by
  refine oX6_clear (sX6_clear_0 hX ?_)
  refine pg_loop (fun i9 (mq : pg_M) => pg_At S Λ YX6_clear d 7 [(0, .ref 19), (1, .int (nI i9))] [] mq _) (fun i9 mq => mq.1 19 5 = 0 ∧ mq.1 19 4 = M.1 19 4 ∧ (∀ m9, m9 < i9 → mq.1 23 m9 = 0) ∧ pg_fr [19, 23] M mq) 4 ?_ ?_ 0 _ (by omega) ⟨by rw [pg_si_at, pk_us], by rw [pg_si_at, pk_un (by decide)], fun m9 hm => absurd hm (by omega), pg_fr.si (by simp)⟩
  · rintro mq hm
    have cq : (4 : Int32) ≤ nI 4 := by decide
    exact sX6_clear_7 hX (fun _ => ⟨rfl, hm⟩) (fun c => absurd cq c) (fun c => absurd cq c)
  · rintro i9 mq hi ⟨a1, a2, a3, a4⟩ ihq
    have cq : ¬ (4 : Int32) ≤ nI i9 := nI_ge hi (by decide)
    have hcl : (nI i9).toNatClampNeg = i9 := nI_clamp (by omega)
    refine sX6_clear_7 hX (fun c => absurd c cq) (fun _ => vp_in_nI hi (by decide)) (fun _ => ?_)
    rw [nI_1, hcl]
    refine ihq _ ⟨by rw [pg_si_ne (by decide)]; exact a1, by rw [pg_si_ne (by decide)]; exact a2, fun m9 hm => ?_, a4.trans (pg_fr.si (by simp))⟩
    rw [pg_si_at]
    by_cases z9 : m9 = i9
    · rw [z9, pk_us]; rfl
    · rw [pk_un z9]; exact a3 m9 (by omega)
end PGR
