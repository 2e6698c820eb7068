/-! rests: the reference, and the class's own parts of it -/
def sp_rpi (a b c : Int32) (k : Nat) : Nat → Bool
  | 0 => decide (sp_lt a b c (k / 3) (k % 3) = 0)
  | e + 1 => sp_rpi a b c k e && decide (¬ sp_lt a b c (k / 3) (k % 3) < sp_lt a b c (k / 3) e)
theorem sp_rpi_3 (a b c : Int32) (k : Nat) : sp_rpi a b c k 3 = sp_ris a b c k := by
  simp only [sp_rpi, sp_ris, Bool.and_assoc]
section PGR
variable {S : pg_S} {Λ : pg_L} {d h : Nat} {M : pg_M} {G : sp_G}
theorem rm_rests_at {a b c w : Int32} (hR : pg_isX11 Λ) (P : Option Value → pg_M → Prop)
    (hend : ∀ n f : Int32, n = nI (fb_ct (sp_ris a b c) 9) → f = sp_oI (sp_rf a b c w 9) → pg_At S Λ YX11_rests (d + 1) 230 [(0, .ref 207), (4, .int w), (5, .int 1), (6, .int n), (7, .int f)] [] M P) :
    pg_At S Λ YX11_rests (d + 1) 52 [(0, .ref 207), (1, .int a), (2, .int b), (3, .int c), (4, .int w), (5, .int 1), (6, .int 0), (7, .int (-1)), (8, .int 0)] [] M P := by
  refine pg_loop (fun k (q : Int32 × Int32) => pg_At S Λ YX11_rests (d + 1) 52 [(0, .ref 207), (1, .int a), (2, .int b), (3, .int c), (4, .int w), (5, .int 1), (6, .int q.1), (7, .int q.2), (8, .int (nI k))] [] M P) (fun k q => q.1 = nI (fb_ct (sp_ris a b c) k) ∧ q.2 = sp_oI (sp_rf a b c w k)) 9 ?_ ?_ 0 (0, -1) (Nat.zero_le _) ⟨rfl, rfl⟩
  · rintro ⟨n, f⟩ ⟨rfl, rfl⟩
    have c9 : (9 : Int32) ≤ nI 9 := by decide
    exact sX11_rests_52 (fun _ => hend _ _ rfl rfl) (fun c => absurd c9 c) (fun c => absurd c9 c) (fun c => absurd c9 c) (fun c => absurd c9 c) (fun c => absurd c9 c)
  · rintro k ⟨n, f⟩ hk ⟨rfl, rfl⟩ ih
    simp only
    have c9 : ¬ (9 : Int32) ≤ nI k := nI_ge (b := 9) hk (by decide)
    have o1 : ¬ (1 : Int32) = 0 := by decide
    have hdiv : nI k / 3 = nI (k / 3) := pk_div (d := 3) (by omega) (by omega) (by omega)
    have hrem : nI k - nI (k / 3) * 3 = nI (k % 3) := by rw [← hdiv]; exact pk_rem (d := 3) (by omega) (by omega) (by omega)
    have g3 : k / 3 < 3 := by omega
    have t3 : k % 3 < 3 := Nat.mod_lt _ (by decide)
    have eq1 : ∀ x y : Nat, x < 3 → y < 3 → (nI x = nI y ↔ x = y) := fun x y hx hy => nI_eq (by omega) (by omega)
    have go : ∀ s0 : Int32, s0 = sp_lt a b c (k / 3) (k % 3) → pg_At S Λ YX11_rests (d + 1) 107 [(0, .ref 207), (1, .int a), (2, .int b), (3, .int c), (4, .int w), (5, .int 1), (6, .int (nI (fb_ct (sp_ris a b c) k))), (7, .int (sp_oI (sp_rf a b c w k))), (8, .int (nI k)), (9, .int (nI (k / 3)))] [.int s0] M P := by
      rintro s0 rfl
      have inner : ∀ q : Bool, q = sp_rpi a b c k 0 → pg_At S Λ YX11_rests (d + 1) 124 [(0, .ref 207), (1, .int a), (2, .int b), (3, .int c), (4, .int w), (5, .int 1), (6, .int (nI (fb_ct (sp_ris a b c) k))), (7, .int (sp_oI (sp_rf a b c w k))), (8, .int (nI k)), (9, .int (nI (k / 3))), (11, .int (sp_lt a b c (k / 3) (k % 3))), (12, .int (b2i q)), (13, .int 0)] [] M P := by
        intro q hq
        refine pg_loop (fun e (q : Bool) => pg_At S Λ YX11_rests (d + 1) 124 [(0, .ref 207), (1, .int a), (2, .int b), (3, .int c), (4, .int w), (5, .int 1), (6, .int (nI (fb_ct (sp_ris a b c) k))), (7, .int (sp_oI (sp_rf a b c w k))), (8, .int (nI k)), (9, .int (nI (k / 3))), (11, .int (sp_lt a b c (k / 3) (k % 3))), (12, .int (b2i q)), (13, .int (nI e))] [] M P) (fun e q => q = sp_rpi a b c k e) 3 ?_ ?_ 0 q (Nat.zero_le _) hq
        · rintro q rfl
          rw [sp_rpi_3]
          have c3 : (3 : Int32) ≤ nI 3 := by decide
          have nx : ∀ s1 : Int32, s1 = sp_oI (sp_rf a b c w (k + 1)) → pg_At S Λ YX11_rests (d + 1) 207 [(0, .ref 207), (1, .int a), (2, .int b), (3, .int c), (4, .int w), (5, .int 1), (6, .int (nI (fb_ct (sp_ris a b c) k))), (8, .int (nI k)), (12, .int (b2i (sp_ris a b c k)))] [.int s1] M P := by
            rintro s1 rfl
            refine sX11_rests_207 (fun q => ?_) (fun q => ?_)
            · rw [nI_1, show nI (fb_ct (sp_ris a b c) k) + 0 = nI (fb_ct (sp_ris a b c) k + 0) from nI_add _ 0]
              refine ih (_, _) ⟨?_, rfl⟩
              show nI _ = nI _
              rw [fb_ct_succ, b2i_0.mp q]; rfl
            · rw [nI_1, nI_1]
              refine ih (_, _) ⟨?_, rfl⟩
              show nI _ = nI _
              rw [fb_ct_succ, ts_nf (fun z => q (b2i_0.mpr z))]; rfl
          refine sX11_rests_124 (fun _ q => ?_) (fun _ q1 q2 => ?_) (fun _ q1 q2 => ?_) (fun c => absurd c3 c) (fun c => absurd c3 c) (fun c => absurd c3 c) (fun c => absurd c3 c)
          · refine nx _ ?_
            simp only [sp_rf]
            rw [if_neg (fun z => by rw [b2i_0.mp q] at z; cases z.1)]
          · refine nx _ ?_
            simp only [sp_rf]
            rw [if_neg (fun z => q2 z.2)]
          · refine nx _ ?_
            simp only [sp_rf]
            rw [if_pos ⟨ts_nf (fun z => q1 (b2i_0.mpr z)), q2⟩]; rfl
        · rintro e q he rfl ih2
          have c3 : ¬ (3 : Int32) ≤ nI e := nI_ge (b := 3) he (by decide)
          have s161 : ∀ s1 : Int32, s1 = sp_lt a b c (k / 3) e → pg_At S Λ YX11_rests (d + 1) 161 [(0, .ref 207), (1, .int a), (2, .int b), (3, .int c), (4, .int w), (5, .int 1), (6, .int (nI (fb_ct (sp_ris a b c) k))), (7, .int (sp_oI (sp_rf a b c w k))), (8, .int (nI k)), (9, .int (nI (k / 3))), (11, .int (sp_lt a b c (k / 3) (k % 3))), (12, .int (b2i (sp_rpi a b c k e))), (13, .int (nI e))] [.int s1] M P := by
            rintro s1 rfl
            refine sX11_rests_161 (fun q => ?_) (fun q1 q2 => ?_) (fun q1 q2 => ?_)
            · rw [nI_1]
              exact ih2 false (by simp only [sp_rpi]; rw [b2i_0.mp q]; rfl)
            · rw [nI_1]
              exact ih2 false (by simp only [sp_rpi]; rw [decide_eq_false (fun z => z q2), Bool.and_false])
            · rw [nI_1]
              exact ih2 true (by simp only [sp_rpi]; rw [decide_eq_true q2, ts_nf (fun z => q1 (b2i_0.mpr z))]; rfl)
          have e0 : nI e = 0 ↔ e = 0 := eq1 e 0 he (by omega)
          have e1 : nI e = 1 ↔ e = 1 := eq1 e 1 he (by omega)
          refine sX11_rests_124 (fun c => absurd c c3) (fun c => absurd c c3) (fun c => absurd c c3) (fun _ q1 q2 q3 => ?_) (fun _ q1 q2 q3 => ?_) (fun _ q1 q2 => ?_) (fun _ q1 => ?_)
          · rw [eq1 _ _ g3 he] at q1; rw [e0] at q2; rw [e1] at q3
            exact s161 _ (by unfold sp_lt sp_wv; rw [if_neg q1, if_neg q2, if_neg q3])
          · rw [eq1 _ _ g3 he] at q1; rw [e0] at q2; rw [e1] at q3
            exact s161 _ (by unfold sp_lt sp_wv; rw [if_neg q1, if_neg q2, if_pos q3])
          · rw [eq1 _ _ g3 he] at q1; rw [e0] at q2
            exact s161 _ (by unfold sp_lt sp_wv; rw [if_neg q1, if_pos q2])
          · rw [eq1 _ _ g3 he] at q1
            exact s161 _ (by unfold sp_lt; rw [if_pos q1])
      refine sX11_rests_107 (fun q => ?_) (fun q => ?_)
      · exact inner false (by simp only [sp_rpi]; rw [decide_eq_false q])
      · exact inner true (by simp only [sp_rpi]; rw [decide_eq_true q])
    have e0 : nI (k % 3) = 0 ↔ k % 3 = 0 := eq1 _ 0 t3 (by omega)
    have e1 : nI (k % 3) = 1 ↔ k % 3 = 1 := eq1 _ 1 t3 (by omega)
    refine sX11_rests_52 (fun c => absurd c c9) (fun _ c => absurd c o1) ?_ ?_ ?_ ?_ <;> simp only [hdiv, hrem]
    · intro _ _ q1 q2 q3; rw [eq1 _ _ g3 t3] at q1; rw [e0] at q2; rw [e1] at q3
      exact go _ (by unfold sp_lt sp_wv; rw [if_neg q1, if_neg q2, if_neg q3])
    · intro _ _ q1 q2 q3; rw [eq1 _ _ g3 t3] at q1; rw [e0] at q2; rw [e1] at q3
      exact go _ (by unfold sp_lt sp_wv; rw [if_neg q1, if_neg q2, if_pos q3])
    · intro _ _ q1 q2; rw [eq1 _ _ g3 t3] at q1; rw [e0] at q2
      exact go _ (by unfold sp_lt sp_wv; rw [if_neg q1, if_pos q2])
    · intro _ _ q1; rw [eq1 _ _ g3 t3] at q1
      exact go _ (by unfold sp_lt; rw [if_pos q1])
theorem rm_rests {a b c w : Int32} (hR : pg_isX11 Λ) (hg : rm_G M G) : pg_Ev S Λ YX11_rests (d + 1) [.ref 207, .int a, .int b, .int c, .int w] M (fun r M' => ∃ v, r = some (.int v) ∧ (M'.1 207 0 = (if (sp_qrests a b c w).isSome then 0 else 1) ∧ (∀ x, sp_qrests a b c w = some x → v = x) ∧ rm_G M' G ∧ pg_fr rm_X M M')) := by
  have wa : decide (¬ a < 0 ∧ ¬ (9 : Int32) < a) = (sp_ix 10 a).isSome := sp_ix_win (n := 9) (by decide) rfl
  have wb : decide (¬ b < 0 ∧ ¬ (9 : Int32) < b) = (sp_ix 10 b).isSome := sp_ix_win (n := 9) (by decide) rfl
  have wc : decide (¬ c < 0 ∧ ¬ (9 : Int32) < c) = (sp_ix 10 c).isSome := sp_ix_win (n := 9) (by decide) rfl
  have th : ∀ v : Int32, rm_G (pg_si M 207 0 v) G := fun v => hg.same (rm_same.f (by simp))
  have tx : ∀ v : Int32, pg_fr rm_X M (pg_si M 207 0 v) := fun v => pg_fr.si (by simp [rm_X])
  have ta : ∀ v : Int32, (pg_si M 207 0 v).1 207 0 = v := fun v => by rw [pg_si_at, pk_us]
  have thr : ∀ {n f : Int32}, sp_qrests a b c w = none → pg_At S Λ YX11_rests (d + 1) 251 [(0, .ref 207), (4, .int w), (6, .int n), (7, .int f)] [.int 1, .ref 207] M (fun r M' => ∃ v, r = some (.int v) ∧ (M'.1 207 0 = (if (sp_qrests a b c w).isSome then 0 else 1) ∧ (∀ x, sp_qrests a b c w = some x → v = x) ∧ rm_G M' G ∧ pg_fr rm_X M M')) := fun {n f} q => by
    refine sX11_rests_251 hR (fun z => ?_) (fun z => ?_) (fun _ => ⟨0, rfl, ?_, fun x e => ?_, th 1, tx 1⟩)
    · rw [ta] at z; exact absurd z (by decide)
    · rw [ta] at z; exact absurd z (by decide)
    · rw [ta, q]; rfl
    · rw [q] at e; cases e
  have bad : sp_rmay a b c w = false → pg_At S Λ YX11_rests (d + 1) 52 [(0, .ref 207), (1, .int a), (2, .int b), (3, .int c), (4, .int w), (5, .int 0), (6, .int 0), (7, .int (-1)), (8, .int 0)] [] M (fun r M' => ∃ v, r = some (.int v) ∧ (M'.1 207 0 = (if (sp_qrests a b c w).isSome then 0 else 1) ∧ (∀ x, sp_qrests a b c w = some x → v = x) ∧ rm_G M' G ∧ pg_fr rm_X M M')) := fun q => by
    have qn : sp_qrests a b c w = none := by unfold sp_qrests; rw [q]; rfl
    have e230 : ∀ n f : Int32, pg_At S Λ YX11_rests (d + 1) 230 [(0, .ref 207), (4, .int w), (5, .int 0), (6, .int n), (7, .int f)] [] M (fun r M' => ∃ v, r = some (.int v) ∧ (M'.1 207 0 = (if (sp_qrests a b c w).isSome then 0 else 1) ∧ (∀ x, sp_qrests a b c w = some x → v = x) ∧ rm_G M' G ∧ pg_fr rm_X M M')) := fun n f => sX11_rests_230 (fun _ => thr qn) (fun z => absurd rfl z) (fun z => absurd rfl z) (fun z => absurd rfl z)
    refine sX11_rests_52 (fun _ => e230 _ _) (fun _ _ => e230 _ _) (fun _ z => absurd rfl z) (fun _ z => absurd rfl z) (fun _ z => absurd rfl z) (fun _ z => absurd rfl z)
  refine oX11_rests (sX11_rests_0 (Q0 := fun v M' => v = b2i (sp_ix 10 a).isSome ∧ M' = M) (Q1 := fun v M' => v = b2i (sp_ix 10 b).isSome ∧ M' = M) (Q2 := fun v M' => v = b2i (sp_ix 10 c).isSome ∧ M' = M) ?_ ?_ ?_ ?_ ?_ ?_ ?_ ?_)
  · rw [← wa]; exact rm_within
  · rintro v M1 ⟨rfl, rfl⟩ q; rw [b2i_0] at q; exact bad (by unfold sp_rmay; rw [q]; rfl)
  · rintro v M1 ⟨rfl, rfl⟩ _; rw [← wb]; exact rm_within
  · rintro v M1 ⟨rfl, rfl⟩ _ v2 M2 ⟨rfl, rfl⟩ q; rw [b2i_0] at q; exact bad (by unfold sp_rmay; rw [q]; simp)
  · rintro v M1 ⟨rfl, rfl⟩ _ v2 M2 ⟨rfl, rfl⟩ _; rw [← wc]; exact rm_within
  · rintro v M1 ⟨rfl, rfl⟩ _ v2 M2 ⟨rfl, rfl⟩ _ v3 M3 ⟨rfl, rfl⟩ q; rw [b2i_0] at q; exact bad (by unfold sp_rmay; rw [q]; simp)
  · rintro v M1 ⟨rfl, rfl⟩ _ v2 M2 ⟨rfl, rfl⟩ _ v3 M3 ⟨rfl, rfl⟩ _ q; exact bad (by unfold sp_rmay; simp [q])
  · rintro v M1 ⟨rfl, rfl⟩ qa v2 M2 ⟨rfl, rfl⟩ qb v3 M3 ⟨rfl, rfl⟩ qc qw
    have may : sp_rmay a b c w = true := by
      unfold sp_rmay
      rw [ts_nf (fun z => qa (b2i_0.mpr z)), ts_nf (fun z => qb (b2i_0.mpr z)), ts_nf (fun z => qc (b2i_0.mpr z)), decide_eq_true qw]; rfl
    have hq : sp_qrests a b c w = if w < 0 then some (nI (fb_ct (sp_ris a b c) 9)) else (sp_rf a b c w 9).map nI := by unfold sp_qrests; rw [may]; rfl
    refine rm_rests_at hR _ ?_
    rintro n f rfl rfl
    have rl : ∀ k, sp_rf a b c w 9 = some k → k < 2 ^ 31 := fun k e => by have := sp_rf_lt 9 k e; omega
    have neg : ∀ {o : Option Nat}, (∀ k, o = some k → k < 2 ^ 31) → sp_oI o < 0 → o = none := fun {o} ho z => by
      cases o with
      | none => rfl
      | some k => exact absurd z (nI_pos (ho k rfl))
    refine sX11_rests_230 (fun z => absurd z (by decide)) (fun _ q1 => ?_) (fun _ q1 q2 => ?_) (fun _ q1 q2 => ?_)
    · rw [if_pos q1] at hq
      refine sX11_rests_251 hR (fun _ z => absurd q1 (fun y => (fa_of_lt y).2.1 z)) (fun _ _ => ⟨_, rfl, ?_, fun x e => ?_, th 0, tx 0⟩) (fun z => ?_)
      · rw [ta, hq]; rfl
      · rw [hq] at e; cases e; rfl
      · rw [ta] at z; exact absurd (by decide) z
    · rw [if_neg q1, neg rl q2] at hq
      exact thr hq
    · rw [if_neg q1] at hq
      cases hf : sp_rf a b c w 9 with
      | none => rw [hf] at q2; exact absurd (by decide) q2
      | some k =>
        rw [hf] at hq
        refine sX11_rests_251 hR (fun _ _ => ⟨_, rfl, ?_, fun x e => ?_, th 0, tx 0⟩) (fun _ z => absurd (fa_of_nlt q1) z) (fun z => ?_)
        · rw [ta, hq]; rfl
        · rw [hq] at e; cases e; rfl
        · rw [ta] at z; exact absurd (by decide) z
theorem rm_thrown (hR : pg_isX11 Λ) : pg_Ev S Λ YX11_thrown d [.ref 207] M (fun r M' => ∃ v, r = some (.int v) ∧ (v = M.1 207 0 ∧ M' = M)) := oX11_thrown (sX11_thrown_0 hR ⟨_, rfl, rfl, rfl⟩)
theorem rc_isWorth {a : Int32} : pg_Ev S Λ YX10_isWorth d [.int a] M (fun r M' => ∃ v, r = some (.int v) ∧ (v = b2i (sp_ix 10 a).isSome ∧ M' = M)) := by
  have wa : decide (¬ a < 0 ∧ ¬ (9 : Int32) < a) = (sp_ix 10 a).isSome := sp_ix_win (n := 9) (by decide) rfl
  rw [← wa]
  refine oX10_isWorth (sX10_isWorth_0 (fun q => ⟨_, rfl, ?_, rfl⟩) (fun q1 q2 => ⟨_, rfl, ?_, rfl⟩) (fun q1 q2 => ⟨_, rfl, ?_, rfl⟩))
  · rw [decide_eq_false (fun z => z.1 q)]; rfl
  · rw [decide_eq_false (fun z => z.2 q2)]; rfl
  · rw [decide_eq_true ⟨q1, q2⟩]; rfl
theorem rc_loot {a b c : Int32} {g t : Nat} (hg : g < 3) (ht : t < 3) : pg_Ev S Λ YX10_loot d [.int a, .int b, .int c, .int (nI g), .int (nI t)] M (fun r M' => ∃ v, r = some (.int v) ∧ (v = sp_lt a b c g t ∧ M' = M)) := by
  have e1 : nI g = nI t ↔ g = t := nI_eq (by omega) (by omega)
  have e2 : nI t = 0 ↔ t = 0 := nI_eq (b := 0) (by omega) (by omega)
  have e3 : nI t = 1 ↔ t = 1 := nI_eq (b := 1) (by omega) (by omega)
  refine oX10_loot (sX10_loot_0 (fun q1 q2 q3 => ⟨_, rfl, ?_, rfl⟩) (fun q1 q2 q3 => ⟨_, rfl, ?_, rfl⟩) (fun q1 q2 => ⟨_, rfl, ?_, rfl⟩) (fun q1 => ⟨_, rfl, ?_, rfl⟩))
  · rw [e1] at q1; rw [e2] at q2; rw [e3] at q3; unfold sp_lt sp_wv; rw [if_neg q1, if_neg q2, if_neg q3]
  · rw [e1] at q1; rw [e2] at q2; rw [e3] at q3; unfold sp_lt sp_wv; rw [if_neg q1, if_neg q2, if_pos q3]
  · rw [e1] at q1; rw [e2] at q2; unfold sp_lt sp_wv; rw [if_neg q1, if_pos q2]
  · rw [e1] at q1; unfold sp_lt; rw [if_pos q1]
end PGR
