/-! TOKENS: the reference cuts the whole tape -/
def rm_cut (M M' : pg_M) (tp : List Nat) (n9 : Nat) : Prop := M'.1 207 3 = nI tp.length ∧ (∀ (j9 c9 : Nat), tp[j9]? = some c9 → M'.1 208 j9 = nI c9) ∧ (∀ j9, j9 < n9 → rm_tk M' tp j9) ∧ pg_fr [207, 209, 210, 211] M M' ∧ (∀ j9, j9 ≠ 2 → j9 ≠ 3 → j9 ≠ 7 → j9 ≠ 8 → M'.1 207 j9 = M.1 207 j9) ∧ M'.1 207 2 = 0
theorem rm_tk.up {M M' : pg_M} {tp : List Nat} {j9 : Nat} (hh : rm_tk M tp j9) (e1 : M'.1 209 j9 = M.1 209 j9) (e2 : M'.1 210 j9 = M.1 210 j9) (e3 : M'.2.1 211 j9 = M.2.1 211 j9) : rm_tk M' tp j9 := by
  unfold rm_tk at hh ⊢
  rw [e1, e2, e3]
  exact hh
theorem rm_cut.put {M Mq : pg_M} {tp : List Nat} {n9 : Nat} {s9 : Int32} {v9 : Int64} (hh : rm_cut M Mq tp n9) (hs : s9 = nI (rm_sc (tk_tok tp n9))) (h2 : (tk_tok tp n9).1 = 2 → v9 = lN (sp_w 37 (tk_tok tp n9).2)) (h3 : 3 ≤ (tk_tok tp n9).1 → v9 = lN ((tk_tok tp n9).2.getD 0 0)) : rm_cut M (pg_sj (pg_si (pg_si Mq 210 n9 (nI (tk_place tp n9))) 209 n9 s9) 211 n9 v9) tp (n9 + 1) := by
  obtain ⟨a1, a2, a3, a4, a5, a6⟩ := hh
  have r7 : (pg_sj (pg_si (pg_si Mq 210 n9 (nI (tk_place tp n9))) 209 n9 s9) 211 n9 v9).1 207 = Mq.1 207 := by
    rw [pg_sj_1, pg_si_ne (by decide), pg_si_ne (by decide)]
  have r8 : (pg_sj (pg_si (pg_si Mq 210 n9 (nI (tk_place tp n9))) 209 n9 s9) 211 n9 v9).1 208 = Mq.1 208 := by
    rw [pg_sj_1, pg_si_ne (by decide), pg_si_ne (by decide)]
  have r9 : (pg_sj (pg_si (pg_si Mq 210 n9 (nI (tk_place tp n9))) 209 n9 s9) 211 n9 v9).1 209 = upd (Mq.1 209) n9 s9 := by
    rw [pg_sj_1, pg_si_at, pg_si_ne (by decide)]
  have r10 : (pg_sj (pg_si (pg_si Mq 210 n9 (nI (tk_place tp n9))) 209 n9 s9) 211 n9 v9).1 210 = upd (Mq.1 210) n9 (nI (tk_place tp n9)) := by
    rw [pg_sj_1, pg_si_ne (by decide), pg_si_at]
  have r11 : (pg_sj (pg_si (pg_si Mq 210 n9 (nI (tk_place tp n9))) 209 n9 s9) 211 n9 v9).2.1 211 = vp_updL (Mq.2.1 211) n9 v9 := by
    rw [pg_sj_at]; rfl
  refine ⟨by rw [r7]; exact a1, fun j9 c9 hc => by rw [r8]; exact a2 j9 c9 hc, fun j9 hj => ?_, a4.trans (((pg_fr.si (by simp)).trans (pg_fr.si (by simp))).trans (pg_fr.sj (by simp))), fun j9 b1 b2 b3 b4 => by rw [r7]; exact a5 j9 b1 b2 b3 b4, by rw [r7]; exact a6⟩
  by_cases z9 : j9 = n9
  · rw [z9]
    unfold rm_tk
    rw [r9, r10, r11, pk_us, pk_us, pk_uLs]
    exact ⟨hs, rfl, h2, h3⟩
  · exact (a3 j9 (by omega)).up (by rw [r9, pk_un z9]) (by rw [r10, pk_un z9]) (by rw [r11, pk_uLn z9])
section PGR
variable {S : pg_S} {Λ : pg_L} {d : Nat} {M : pg_M} {tp : List Nat}
/-- what cutting ends in -/
def rm_cutP (M : pg_M) (tp : List Nat) (r : Option Value) (M' : pg_M) : Prop := r = none ∧ ∃ n9, rm_R M' tp n9 (.ok 0) ∧ M'.1 207 2 = 0 ∧ pg_fr [207, 209, 210, 211] M M' ∧ ∀ j9, j9 ≠ 2 → j9 ≠ 3 → j9 ≠ 7 → j9 ≠ 8 → M'.1 207 j9 = M.1 207 j9
theorem rm_cut17 (hX : pg_isX11 Λ) (hk : tk_ok tp) (hW : rm_W M) : ∀ m9 k9 n9 Mq, tp.length - k9 ≤ m9 → k9 ≤ tp.length → n9 ≤ k9 → tk_i tp n9 ≤ k9 → k9 ≤ tk_p tp (tk_i tp n9) → rm_cut M Mq tp n9 → pg_At S Λ YX11_cutAll (d + 2) 17 [(0, .ref 207), (1, .int (nI n9)), (2, .int (nI k9))] [] Mq (rm_cutP M tp) := by
  have hlen := hk.1
  intro m9
  induction m9 with
  | zero =>
    intro k9 n9 Mq hm hkl hnk hi hp hc
    have ek : k9 = tp.length := by omega
    have hc0 := hc
    obtain ⟨a1, a2, a3, a4, a5, a6⟩ := hc
    have cq : Mq.1 207 3 ≤ nI k9 := by rw [a1]; exact nI_le (by omega) (by omega)
    have hnl : (nI n9).toNatClampNeg = n9 := nI_clamp (by omega)
    have hpe : tk_p tp (tk_i tp n9) = tp.length := by have := tk_p_le (tp := tp) (tk_i_le n9); omega
    have te : tk_tok tp n9 = (0, []) := by unfold tk_tok tk_t; rw [hpe, List.getElem?_eq_none (Nat.le_refl _)]
    refine sX11_cutAll_17 (Q0 := fun _ _ => True) (Q1 := fun _ _ => True) (Q2 := fun _ _ => True) hX (fun _ => vp_in_nI (by omega) (by decide)) ?_ (fun c => absurd cq c) (fun c => absurd cq c) (fun c => absurd cq c) (fun c => absurd cq c) (fun c => absurd cq c) (fun c => absurd cq c) (fun c => absurd cq c) (fun c => absurd cq c) (fun c => absurd cq c) (fun c => absurd cq c) (fun c => absurd cq c)
    intro _ Nq1 eq1
    rw [hnl, pg_si_ne (by decide), a1] at eq1
    have r7 : ∀ j9, j9 ≠ 7 → j9 ≠ 8 → (pg_si Nq1 207 8 0).1 207 j9 = Mq.1 207 j9 := fun j9 b1 b2 => by
      rw [pg_si_at, pk_un b2, eq1, pg_si_at, pk_un b1, pg_si_ne (by decide), pg_si_ne (by decide)]
    have r77 : (pg_si Nq1 207 8 0).1 207 7 = nI 0 := by rw [pg_si_at, pk_un (by decide), eq1, pg_si_at, pk_us]; rfl
    have r78 : (pg_si Nq1 207 8 0).1 207 8 = 0 := by rw [pg_si_at, pk_us]
    have r9 : (pg_si Nq1 207 8 0).1 209 = upd (Mq.1 209) n9 0 := by
      rw [pg_si_ne (by decide), eq1, pg_si_ne (by decide), pg_si_ne (by decide), pg_si_at]
    have r10 : (pg_si Nq1 207 8 0).1 210 = upd (Mq.1 210) n9 (nI tp.length) := by
      rw [pg_si_ne (by decide), eq1, pg_si_ne (by decide), pg_si_at, pg_si_ne (by decide)]
    have rl : (pg_si Nq1 207 8 0).2 = Mq.2 := by rw [eq1]; rfl
    have fr9 : pg_fr [207, 209, 210, 211] Mq (pg_si Nq1 207 8 0) := by rw [eq1]; exact (((pg_fr.si (by simp)).trans (pg_fr.si (by simp))).trans (pg_fr.si (by simp))).trans (pg_fr.si (by simp))
    refine ⟨rfl, n9, ⟨by omega, by rw [te], fun j9 hj => ?_, ?_, r78, r77, Nat.zero_le _⟩, by rw [r7 2 (by decide) (by decide)]; exact a6, a4.trans fr9, fun j9 b1 b2 b3 b4 => (r7 j9 b3 b4).trans (a5 j9 b1 b2 b3 b4)⟩
    · by_cases z9 : j9 = n9
      · rw [z9]
        unfold rm_tk tk_place
        rw [r9, r10, te, pk_us, pk_us, hpe]
        exact ⟨rfl, rfl, fun y9 => absurd y9 (by decide), fun y9 => absurd y9 (by decide)⟩
      · exact (a3 j9 (by omega)).up (by rw [r9, pk_un z9]) (by rw [r10, pk_un z9]) (by rw [rl])
    · unfold rm_W at hW ⊢
      rw [rl, a4.2.1 212 (by decide)]; exact hW
  | succ m9 ih9 =>
    intro k9 n9 Mq hm hkl hnk hi hp hc
    by_cases ek : k9 = tp.length
    · exact ih9 k9 n9 Mq (by omega) hkl hnk hi hp hc
    · have hc0 := hc
      obtain ⟨a1, a2, a3, a4, a5, a6⟩ := hc
      obtain ⟨c9, hg⟩ := tk_get (show k9 < tp.length by omega)
      have hc8 := hk.2 _ _ hg
      have cq : ¬ Mq.1 207 3 ≤ nI k9 := by rw [a1]; exact nI_ge (by omega) (by omega)
      have hnl : (nI n9).toNatClampNeg = n9 := nI_clamp (by omega)
      have hkl2 : (nI k9).toNatClampNeg = k9 := nI_clamp (by omega)
      have ec : Mq.1 208 (nI k9).toNatClampNeg = nI c9 := by rw [hkl2]; exact a2 _ _ hg
      have e10 : (Mq.1 208 (nI k9).toNatClampNeg = 10) ↔ c9 = 10 := by rw [ec, show (10 : Int32) = nI 10 from rfl, nI_eq (by omega) (by omega)]
      have e32 : (Mq.1 208 (nI k9).toNatClampNeg = 32) ↔ c9 = 32 := by rw [ec, show (32 : Int32) = nI 32 from rfl, nI_eq (by omega) (by omega)]
      have vn : vp_in (nI n9) 1002 := vp_in_nI (by omega) (by decide)
      have blank : tk_W c9 = true → pg_At S Λ YX11_cutAll (d + 2) 17 [(0, .ref 207), (1, .int (nI n9)), (2, .int (nI k9 + 1))] [] Mq (rm_cutP M tp) := fun hb => by
        have lt : k9 < tk_p tp (tk_i tp n9) := by
          rcases Nat.lt_or_ge k9 (tk_p tp (tk_i tp n9)) with y9 | y9
          · exact y9
          · have e9 : k9 = tk_i tp n9 + (tk_run tk_W tp (tk_i tp n9)).length := by
              have : tk_p tp (tk_i tp n9) = tk_i tp n9 + (tk_run tk_W tp (tk_i tp n9)).length := rfl
              omega
            rw [e9] at hg
            have := tk_run_out (p := tk_W) hg
            rw [this] at hb; cases hb
        rw [nI_1]
        exact ih9 (k9 + 1) n9 Mq (by omega) (by omega) (by omega) (by omega) (by omega) hc0
      by_cases hb : tk_W c9 = true
      · have hbw : c9 = 10 ∨ c9 = 32 := by unfold tk_W at hb; simpa using hb
        refine sX11_cutAll_17 (Q0 := fun _ _ => True) (Q1 := fun _ _ => True) (Q2 := fun _ _ => True) hX (fun c => absurd c cq) (fun c => absurd c cq) (fun _ => vp_in_nI (by omega) (by decide)) (fun _ _ => blank hb) (fun _ _ _ => vn) ?_ ?_ ?_ ?_ ?_ ?_ ?_ (fun _ _ _ => blank hb)
        all_goals (intro _ q1 q2; rw [e10] at q1; rw [e32] at q2; omega)
      · have ep : k9 = tk_p tp (tk_i tp n9) := by
          rcases Nat.lt_or_ge k9 (tk_p tp (tk_i tp n9)) with y9 | y9
          · have hj : k9 - tk_i tp n9 < (tk_run tk_W tp (tk_i tp n9)).length := by
              have : tk_p tp (tk_i tp n9) = tk_i tp n9 + (tk_run tk_W tp (tk_i tp n9)).length := rfl
              omega
            obtain ⟨f9, g1, _, g3⟩ := tk_run_in hj
            rw [show tk_i tp n9 + (k9 - tk_i tp n9) = k9 by omega, hg] at g1
            rw [← Option.some.inj g1] at g3
            exact absurd g3 hb
          · omega
        have nb : ¬ c9 = 10 ∧ ¬ c9 = 32 := by
          constructor
          · intro y9; apply hb; rw [y9]; rfl
          · intro y9; apply hb; rw [y9]; rfl
        have hg2 : tp[tk_p tp (tk_i tp n9)]? = some c9 := by rw [← ep]; exact hg
        have tt : tk_tok tp n9 = if tk_L c9 then (if (tk_ls tp (tk_i tp n9)).length ≤ 8 then (2, (tk_ls tp (tk_i tp n9)).map (· - 96)) else (1, [])) else if tk_D c9 then (if (tk_ds tp (tk_i tp n9)).length ≤ 4 then (3, [sp_w 10 ((tk_ds tp (tk_i tp n9)).map (· - 48))]) else (1, [])) else if tk_G c9 then (4, [c9]) else (1, []) := by
          unfold tk_tok tk_t; rw [hg2]
        have eL : tk_run tk_L tp k9 = tk_ls tp (tk_i tp n9) := by unfold tk_ls; rw [← ep]
        have eD : tk_run tk_D tp k9 = tk_ds tp (tk_i tp n9) := by unfold tk_ds; rw [← ep]
        have pL := tk_run_pos (p := tk_L) hg
        have pD := tk_run_pos (p := tk_D) hg
        have lL := tk_run_le (p := tk_L) hkl
        have lD := tk_run_le (p := tk_D) hkl
        rw [eL] at pL lL
        rw [eD] at pD lD
        have eb : tk_i tp (n9 + 1) = min tp.length (k9 + max 1 (max (tk_ls tp (tk_i tp n9)).length (tk_ds tp (tk_i tp n9)).length)) := by
          show tk_b tp (tk_i tp n9) = _
          unfold tk_b; rw [← ep]
        have pl : nI k9 = nI (tk_place tp n9) := by rw [ep]; rfl
        have nxt : ∀ (k1 : Nat) (s9 : Int32) (v9 : Int64), k9 < k1 → k1 ≤ tp.length → tk_i tp (n9 + 1) = k1 → s9 = nI (rm_sc (tk_tok tp n9)) → ((tk_tok tp n9).1 = 2 → v9 = lN (sp_w 37 (tk_tok tp n9).2)) → (3 ≤ (tk_tok tp n9).1 → v9 = lN ((tk_tok tp n9).2.getD 0 0)) → pg_At S Λ YX11_cutAll (d + 2) 17 [(0, .ref 207), (1, .int (nI n9 + 1)), (2, .int (nI k1))] [] (pg_sj (pg_si (pg_si Mq 210 n9 (nI k9)) 209 n9 s9) 211 n9 v9) (rm_cutP M tp) := by
          intro k1 s9 v9 b1 b2 b3 b4 b5 b6
          rw [nI_1, pl]
          have : tk_i tp (n9 + 1) ≤ tk_p tp (tk_i tp (n9 + 1)) := Nat.le_add_right _ _
          exact ih9 k1 (n9 + 1) _ (by omega) b2 (by omega) (by omega) (by omega) (hc0.put b4 b5 b6)
        have h3x : (pg_si Mq 210 n9 (nI k9)).1 207 3 = nI tp.length := by rw [pg_si_ne (by decide)]; exact a1
        have h8x : ∀ (j9 c9 : Nat), tp[j9]? = some c9 → (pg_si Mq 210 n9 (nI k9)).1 208 j9 = nI c9 := fun j9 c9 h9 => by rw [pg_si_ne (by decide)]; exact a2 j9 c9 h9
        have sgn : tk_L c9 = false → tk_D c9 = false → ∀ s9 : Int32, s9 = (if tk_G c9 = true then 3 else 4) → pg_At S Λ YX11_cutAll (d + 2) 17 [(0, .ref 207), (1, .int (nI n9 + 1)), (2, .int (nI k9 + 1))] [] (pg_sj (pg_si (pg_si Mq 210 n9 (nI k9)) 209 n9 s9) 211 n9 (nI c9).toInt64) (rm_cutP M tp) := by
          intro nL nD s9 hs9
          have z1 : (tk_ls tp (tk_i tp n9)).length = 0 := by
            rcases Nat.eq_zero_or_pos (tk_ls tp (tk_i tp n9)).length with y9 | y9
            · exact y9
            · rw [pL.mp y9] at nL; cases nL
          have z2 : (tk_ds tp (tk_i tp n9)).length = 0 := by
            rcases Nat.eq_zero_or_pos (tk_ds tp (tk_i tp n9)).length with y9 | y9
            · exact y9
            · rw [pD.mp y9] at nD; cases nD
          rw [nL, nD] at tt
          have ei : tk_i tp (n9 + 1) = k9 + 1 := by rw [eb, z1, z2]; omega
          rw [nI_1 k9]
          cases hG : tk_G c9 with
          | true =>
            rw [hG] at tt hs9
            have tt2 : tk_tok tp n9 = (4, [c9]) := tt
            exact nxt (k9 + 1) s9 _ (by omega) (by omega) ei (by rw [tt2, hs9]; rfl) (fun y9 => by rw [tt2] at y9; exact absurd y9 (by simp)) (fun _ => by rw [tt2, nI_l (by omega)]; rfl)
          | false =>
            rw [hG] at tt hs9
            have tt2 : tk_tok tp n9 = (1, []) := tt
            exact nxt (k9 + 1) s9 _ (by omega) (by omega) ei (by rw [tt2, hs9]; rfl) (fun y9 => by rw [tt2] at y9; exact absurd y9 (by simp)) (fun y9 => by rw [tt2] at y9; exact absurd y9 (by simp))
        refine sX11_cutAll_17 (Q0 := fun v M' => v = b2i (tk_L c9) ∧ M' = pg_si Mq 210 n9 (nI k9)) (Q1 := fun v M' => v = b2i (tk_D c9) ∧ M' = pg_si Mq 210 n9 (nI k9)) (Q2 := fun v M' => v = b2i (tk_G c9) ∧ M' = pg_si Mq 210 n9 (nI k9)) hX (fun c => absurd c cq) (fun c => absurd c cq) (fun _ => vp_in_nI (by omega) (by decide)) (fun _ q => absurd (e10.mp q) nb.1) (fun _ _ _ => vn) ?_ ?_ ?_ ?_ ?_ ?_ ?_ (fun _ _ q => absurd (e32.mp q) nb.2)
        · intro _ _ _; rw [hnl, ec]; exact rm_isLetter (by omega)
        · rintro _ _ _ x1 Mq1 ⟨_, e1⟩ _; rw [e1, ec]; exact rm_isDigit (by omega)
        · rintro _ _ _ x1 Mq1 ⟨_, e1⟩ _ x2 Mq2 ⟨_, e2⟩ _; rw [e2, ec]; exact rm_isSignOf hc8
        · rintro _ _ _ x1 Mq1 ⟨g1, e1⟩ q1 x2 Mq2 ⟨g2, e2⟩ q2 x3 Mq3 ⟨g3, e3⟩ q3
          rw [g1, b2i_0] at q1
          rw [g2, b2i_0] at q2
          rw [g3, b2i_0] at q3
          rw [e3, hnl, ec]
          exact sgn q1 q2 4 (by rw [if_neg (by rw [q3]; decide)])
        · rintro _ _ _ x1 Mq1 ⟨g1, e1⟩ q1 x2 Mq2 ⟨g2, e2⟩ q2 x3 Mq3 ⟨g3, e3⟩ q3
          rw [g1, b2i_0] at q1
          rw [g2, b2i_0] at q2
          rw [g3, b2i_0, Bool.not_eq_false] at q3
          rw [e3, hnl, ec]
          exact sgn q1 q2 3 (by rw [if_pos q3])
        · rintro _ _ _ x1 Mq1 ⟨g1, e1⟩ q1 x2 Mq2 ⟨g2, e2⟩ q2
          rw [g1, b2i_0] at q1
          rw [g2, b2i_0, Bool.not_eq_false] at q2
          rw [e2]
          have z1 : (tk_ls tp (tk_i tp n9)).length = 0 := by
            rcases Nat.eq_zero_or_pos (tk_ls tp (tk_i tp n9)).length with y9 | y9
            · exact y9
            · rw [pL.mp y9] at q1; cases q1
          have z2 := pD.mpr q2
          rw [q1, q2] at tt
          refine rm_cut159 (d := d + 1) (by omega) hX hk hkl h3x h8x (fun s9 v9 hs hv => ?_)
          rw [eD] at hs hv ⊢
          have ei : tk_i tp (n9 + 1) = k9 + (tk_ds tp (tk_i tp n9)).length := by rw [eb, z1]; omega
          by_cases y4 : (tk_ds tp (tk_i tp n9)).length ≤ 4
          · have tt2 : tk_tok tp n9 = (3, [sp_w 10 ((tk_ds tp (tk_i tp n9)).map (· - 48))]) := by rw [tt]; simp [y4]
            rw [if_pos y4] at hs
            rw [show min (tk_ds tp (tk_i tp n9)).length 4 = (tk_ds tp (tk_i tp n9)).length by omega, List.take_length] at hv
            exact nxt _ s9 v9 (by omega) lD ei (by rw [tt2, hs]; rfl) (fun y9 => by rw [tt2] at y9; exact absurd y9 (by simp)) (fun _ => by rw [tt2, hv]; rfl)
          · have tt2 : tk_tok tp n9 = (1, []) := by rw [tt]; simp [y4]
            rw [if_neg y4] at hs
            exact nxt _ s9 v9 (by omega) lD ei (by rw [tt2, hs]; rfl) (fun y9 => by rw [tt2] at y9; exact absurd y9 (by simp)) (fun y9 => by rw [tt2] at y9; exact absurd y9 (by simp))
        · rintro _ _ _ x1 Mq1 ⟨g1, e1⟩ q1
          rw [g1, b2i_0, Bool.not_eq_false] at q1
          rw [e1]
          have nD : tk_D c9 = false := ts_nt (fun y9 => by
            unfold tk_L at q1
            unfold tk_D at y9
            simp only [Bool.and_eq_true, decide_eq_true_eq] at q1 y9
            omega)
          have z2 : (tk_ds tp (tk_i tp n9)).length = 0 := by
            rcases Nat.eq_zero_or_pos (tk_ds tp (tk_i tp n9)).length with y9 | y9
            · exact y9
            · rw [pD.mp y9] at nD; cases nD
          have z1 := pL.mpr q1
          rw [q1] at tt
          refine rm_cut70 (d := d) (by omega) hX hk hkl h3x h8x (fun s9 v9 hs hv => ?_)
          rw [eL] at hs hv ⊢
          have ei : tk_i tp (n9 + 1) = k9 + (tk_ls tp (tk_i tp n9)).length := by rw [eb, z2]; omega
          by_cases y8 : (tk_ls tp (tk_i tp n9)).length ≤ 8
          · have tt2 : tk_tok tp n9 = (2, (tk_ls tp (tk_i tp n9)).map (· - 96)) := by rw [tt]; simp [y8]
            rw [if_pos y8] at hs
            rw [show min (tk_ls tp (tk_i tp n9)).length 8 = (tk_ls tp (tk_i tp n9)).length by omega, List.take_length] at hv
            exact nxt _ s9 v9 (by omega) lL ei (by rw [tt2, hs]; rfl) (fun _ => by rw [tt2, hv]) (fun y9 => by rw [tt2] at y9; exact absurd y9 (by simp))
          · have tt2 : tk_tok tp n9 = (1, []) := by rw [tt]; simp [y8]
            rw [if_neg y8] at hs
            exact nxt _ s9 v9 (by omega) lL ei (by rw [tt2, hs]; rfl) (fun y9 => by rw [tt2] at y9; exact absurd y9 (by simp)) (fun y9 => by rw [tt2] at y9; exact absurd y9 (by simp))
theorem rm_cutAll (hX : pg_isX11 Λ) (hk : tk_ok tp) (hT : pg_tp M 207 2 208 tp) (hW : rm_W M) : pg_Ev S Λ YX11_cutAll (d + 2) [.ref 207] M (rm_cutP M tp) := by
  refine oX11_cutAll (sX11_cutAll_0 hX ?_)
  refine rm_cut17 hX hk hW tp.length 0 0 _ (by omega) (Nat.zero_le _) (Nat.le_refl _) (Nat.le_refl _) (Nat.zero_le _) ⟨?_, fun j9 c9 hc => ?_, fun j9 hj => absurd hj (Nat.not_lt_zero _), (pg_fr.si (by simp)).trans (pg_fr.si (by simp)), fun j9 b1 b2 _ _ => ?_, ?_⟩
  · rw [pg_si_at, pk_un (by decide), pg_si_at, pk_us]; exact hT.1
  · rw [pg_si_ne (by decide), pg_si_ne (by decide)]; exact hT.2 j9 c9 hc
  · rw [pg_si_at, pk_un b1, pg_si_at, pk_un b2]
  · rw [pg_si_at, pk_us]
end PGR
