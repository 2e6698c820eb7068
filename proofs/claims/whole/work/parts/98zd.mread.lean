/-! LINES: the reference reads names and numbers -/
theorem lg_nlt {a9 b9 : Nat} (ha : a9 < 2 ^ 63) (hb : b9 < 2 ^ 63) : lg_cmp (lN a9) (lN b9) < 0 ↔ a9 < b9 := by
  have h1 : (lN a9 > lN b9) ↔ b9 < a9 := by
    show lN b9 < lN a9 ↔ _
    rw [Int64.lt_iff_toInt_lt, lo_toInt ha, lo_toInt hb]; omega
  have h2 : (lN a9 = lN b9) ↔ a9 = b9 := by
    constructor
    · intro e9
      have := congrArg Int64.toInt e9
      rw [lo_toInt ha, lo_toInt hb] at this
      omega
    · intro e9; rw [e9]
  unfold lg_cmp
  by_cases c1 : b9 < a9
  · rw [if_pos (h1.mpr c1)]
    exact ⟨fun c => absurd c (by decide), fun c => by omega⟩
  · rw [if_neg (fun c => c1 (h1.mp c))]
    by_cases c2 : a9 = b9
    · rw [if_pos (h2.mpr c2)]
      exact ⟨fun c => absurd c (by decide), fun c => by omega⟩
    · rw [if_neg (fun c => c2 (h2.mp c))]
      exact ⟨fun _ => by omega, fun _ => by decide⟩
theorem lg_nle {a9 b9 : Nat} (ha : a9 < 2 ^ 63) (hb : b9 < 2 ^ 63) : lg_cmp (lN a9) (lN b9) ≤ 0 ↔ a9 ≤ b9 := by
  have h1 : (lN a9 > lN b9) ↔ b9 < a9 := by
    show lN b9 < lN a9 ↔ _
    rw [Int64.lt_iff_toInt_lt, lo_toInt ha, lo_toInt hb]; omega
  unfold lg_cmp
  by_cases c1 : b9 < a9
  · rw [if_pos (h1.mpr c1)]
    exact ⟨fun c => absurd c (by decide), fun c => by omega⟩
  · rw [if_neg (fun c => c1 (h1.mp c))]
    split
    · exact ⟨fun _ => by omega, fun _ => by decide⟩
    · exact ⟨fun _ => by omega, fun _ => by decide⟩
def rm_v (tp : List Nat) (n9 : Nat) (M : pg_M) (x9 : Except Nat Nat) (k9 : Nat) (v9 : Int32) (M' : pg_M) : Prop := rm_rf M M' ∧ match x9 with
  | .ok m9 => rm_R M' tp n9 (.ok k9) ∧ v9 = nI m9
  | .error e9 => rm_R M' tp n9 (.error e9)
section PGR
variable {S : pg_S} {Λ : pg_L} {d n9 k9 : Nat} {M : pg_M} {tp : List Nat}
theorem rm_R.e0 {e9 : Nat} (hR : rm_R M tp n9 (.error e9)) : ¬ M.1 207 8 = 0 := by
  obtain ⟨_, _, _, _, g1, g2, g3⟩ := hR
  rw [g1]; exact nI_ne0 g2 (by omega)
theorem rm_R.z0 (hR : rm_R M tp n9 (.ok k9)) : M.1 207 8 = 0 := by
  obtain ⟨_, _, _, _, g1, g2, g3⟩ := hR
  exact g1
theorem rm_R.at9 (hR : rm_R M tp n9 (.ok k9)) : M.1 207 7 = nI k9 ∧ k9 ≤ n9 ∧ n9 ≤ 1000 ∧ (nI k9).toNatClampNeg = k9 ∧ rm_tk M tp k9 := by
  obtain ⟨h1, _, h3, _, g1, g2, g3⟩ := hR
  exact ⟨g2, g3, h1, nI_clamp (by omega), h3 k9 g3⟩
theorem rm_R.s2 (hk : tk_ok tp) (hR : rm_R M tp n9 (.ok k9)) : M.1 209 (M.1 207 7).toNatClampNeg = 2 ↔ (tk_tok tp k9).1 = 3 := by
  obtain ⟨g1, g2, g3, g4, g5⟩ := hR.at9
  rw [g1, g4, g5.1, show (2 : Int32) = nI 2 from rfl, nI_eq (by have := rm_sc_le (t9 := tk_tok tp k9); omega) (by omega), rm_sc_2 (tk_kind hk)]
theorem rm_R.s1 (hk : tk_ok tp) (hR : rm_R M tp n9 (.ok k9)) : M.1 209 (M.1 207 7).toNatClampNeg = 1 ↔ (tk_tok tp k9).1 = 2 := by
  obtain ⟨g1, g2, g3, g4, g5⟩ := hR.at9
  rw [g1, g4, g5.1, show (1 : Int32) = nI 1 from rfl, nI_eq (by have := rm_sc_le (t9 := tk_tok tp k9); omega) (by omega), rm_sc_1 (tk_kind hk)]
theorem rm_R.s0 (hk : tk_ok tp) (hR : rm_R M tp n9 (.ok k9)) : M.1 209 (M.1 207 7).toNatClampNeg = 0 ↔ (tk_tok tp k9).1 = 0 := by
  obtain ⟨g1, g2, g3, g4, g5⟩ := hR.at9
  rw [g1, g4, g5.1, ← nI_0, nI_eq (by have := rm_sc_le (t9 := tk_tok tp k9); omega) (by omega), rm_sc_0 (tk_kind hk)]
theorem rm_R.vin (hR : rm_R M tp n9 (.ok k9)) : vp_in (M.1 207 7) 1002 := by
  obtain ⟨g1, g2, g3, g4, g5⟩ := hR.at9
  rw [g1]; exact vp_in_nI (by omega) (by decide)
theorem rm_takeNumber_e {e9 : Nat} {x9 y9 : Int32} (hX : pg_isX11 Λ) (hR : rm_R M tp n9 (.error e9)) : pg_Ev S Λ YX11_takeNumber (d + 1) [.ref 207, .int x9, .int y9] M (fun r M' => ∃ v, r = some (.int v) ∧ M' = M) := by
  have n0 := hR.e0
  have ends : pg_At S Λ YX11_takeNumber (d + 1) 70 [(0, .ref 207)] [] M (fun r M' => ∃ v, r = some (.int v) ∧ M' = M) := sX11_takeNumber_70 hX (fun c => absurd c hR.fle) (fun c => absurd c hR.fle) (fun _ => ⟨_, rfl, rfl⟩)
  exact oX11_takeNumber (sX11_takeNumber_0 (Q0 := fun _ => True) (Q1 := fun _ => True) (Q2 := fun _ => True) (Q3 := fun _ => True) (Q4 := fun _ => True) hX (fun _ _ => ends) (fun _ c => absurd c n0) (fun _ c => absurd c n0) (fun _ c => absurd c n0) (fun _ c => absurd c n0) (fun _ c => absurd c n0) (fun _ c => absurd c n0) (fun c => absurd c n0) (fun c => absurd c n0) (fun c => absurd c n0) (fun c => absurd c n0) (fun c => absurd c n0) (fun c => absurd c n0) (fun c => absurd c n0) (fun c => absurd c n0) (fun c => absurd c n0))
theorem rm_takeNumber {lo hi : Nat} (hlo : lo < 2 ^ 31) (hhi : hi < 2 ^ 31) (hX : pg_isX11 Λ) (hk : tk_ok tp) (hR : rm_R M tp n9 (.ok k9)) : pg_Ev S Λ YX11_takeNumber (d + 1) [.ref 207, .int (nI lo), .int (nI hi)] M (fun r M' => ∃ v, r = some (.int v) ∧ rm_v tp n9 M (rd_num tp lo hi k9) (k9 + 1) v M') := by
  obtain ⟨g1, g2, g3, g4, g5⟩ := hR.at9
  have z0 := hR.z0
  have s2 := hR.s2 hk
  have w4 := rm_wrong (S := S) (Λ := Λ) (d := d) (m9 := 4) (by omega) (by omega) hX hk hR
  have w1 := rm_wrong (S := S) (Λ := Λ) (d := d) (m9 := 1) (by omega) (by omega) hX hk hR
  have er : ∀ m9 Mq, rd_num tp lo hi k9 = .error (m9 + 16 * tk_place tp k9) → rm_R Mq tp n9 (.error (m9 + 16 * tk_place tp k9)) → rm_rf M Mq → pg_At S Λ YX11_takeNumber (d + 1) 70 [(0, .ref 207)] [] Mq (fun r M' => ∃ v, r = some (.int v) ∧ rm_v tp n9 M (rd_num tp lo hi k9) (k9 + 1) v M') := fun m9 Mq he y1 y2 => by
    rw [he]
    exact sX11_takeNumber_70 hX (fun c => absurd c y1.fle) (fun c => absurd c y1.fle) (fun _ => ⟨_, rfl, y2, y1⟩)
  by_cases c3 : (tk_tok tp k9).1 = 3
  · have m3 := s2.mpr c3
    have lt := tk_num_lt c3
    have ev : M.2.1 211 (M.1 207 7).toNatClampNeg = lN ((tk_tok tp k9).2.getD 0 0) := by rw [g1, g4]; exact g5.2.2.2 (by omega)
    have b1 : (lg_cmp (M.2.1 211 (M.1 207 7).toNatClampNeg) (nI lo).toInt64 < 0) ↔ (tk_tok tp k9).2.getD 0 0 < lo := by rw [ev, lo_of hlo, lg_nlt (by omega) (by omega)]
    have b2 : (lg_cmp (M.2.1 211 (M.1 207 7).toNatClampNeg) (nI hi).toInt64 ≤ 0) ↔ (tk_tok tp k9).2.getD 0 0 ≤ hi := by rw [ev, lo_of hhi, lg_nle (by omega) (by omega)]
    have bad : ¬ (lo ≤ (tk_tok tp k9).2.getD 0 0 ∧ (tk_tok tp k9).2.getD 0 0 ≤ hi) → rd_num tp lo hi k9 = .error (4 + 16 * tk_place tp k9) := fun z9 => by
      unfold rd_num; rw [if_pos c3, if_neg z9]; rfl
    refine oX11_takeNumber (sX11_takeNumber_0 (Q0 := fun _ => True) (Q1 := fun _ => True) (Q2 := fun M' => rm_R M' tp n9 (.error (4 + 16 * tk_place tp k9)) ∧ rm_rf M M' ∧ M'.1 207 7 = M.1 207 7) (Q3 := fun M' => rm_R M' tp n9 (.error (4 + 16 * tk_place tp k9)) ∧ rm_rf M M' ∧ M'.1 207 7 = M.1 207 7) (Q4 := fun _ => True) hX (fun c => absurd z0 c) (fun c => absurd z0 c) (fun c => absurd z0 c) (fun c => absurd z0 c) (fun c => absurd z0 c) (fun c => absurd z0 c) (fun c => absurd z0 c) (fun _ => hR.vin) (fun _ _ c => absurd z0 c) (fun _ _ _ _ => w4) (fun _ _ _ q9 Mq1 y9 => er 4 Mq1 (bad (by rw [b1] at q9; omega)) y9.1 y9.2.1) (fun _ _ _ q9 q8 => ?_) (fun _ _ _ _ _ => w4) (fun _ _ _ _ q8 Mq1 y9 => er 4 Mq1 (bad (by rw [b2] at q8; omega)) y9.1 y9.2.1) (fun _ c => absurd m3 c) (fun _ c => absurd m3 c))
    rw [b1] at q9
    rw [b2] at q8
    obtain ⟨a1, a2⟩ := hR.adv (by rw [c3]; decide)
    have e7 : ((pg_si M 207 7 ((M.1 207 7) + 1)).1 207 7) - 1 = nI k9 := by
      rw [pg_si_at, pk_us, g1, nI_1, show (1 : Int32) = nI 1 from rfl, pk_sub (by omega), Nat.add_sub_cancel]
    refine sX11_takeNumber_70 hX (fun _ => by rw [e7]; exact vp_in_nI (by omega) (by decide)) (fun _ => ⟨_, rfl, a2, ?_⟩) (fun c => absurd hR.f0 c)
    unfold rd_num
    rw [if_pos c3, if_pos (by omega)]
    refine ⟨a1, ?_⟩
    rw [e7, g4]
    show (M.2.1 211 k9).toInt32 = _
    rw [g1, g4] at ev
    rw [ev, lo_to (by omega)]
  · have m3 : ¬ M.1 209 (M.1 207 7).toNatClampNeg = 2 := fun c => c3 (s2.mp c)
    have bad : rd_num tp lo hi k9 = .error (1 + 16 * tk_place tp k9) := by unfold rd_num; rw [if_neg c3]; rfl
    exact oX11_takeNumber (sX11_takeNumber_0 (Q0 := fun _ => True) (Q1 := fun _ => True) (Q2 := fun _ => True) (Q3 := fun _ => True) (Q4 := fun M' => rm_R M' tp n9 (.error (1 + 16 * tk_place tp k9)) ∧ rm_rf M M' ∧ M'.1 207 7 = M.1 207 7) hX (fun c => absurd z0 c) (fun c => absurd z0 c) (fun c => absurd z0 c) (fun c => absurd z0 c) (fun c => absurd z0 c) (fun c => absurd z0 c) (fun c => absurd z0 c) (fun _ => hR.vin) (fun _ c => absurd c m3) (fun _ c => absurd c m3) (fun _ c => absurd c m3) (fun _ c => absurd c m3) (fun _ c => absurd c m3) (fun _ c => absurd c m3) (fun _ _ => w1) (fun _ _ Mq1 y9 => er 1 Mq1 bad y9.1 y9.2.1))
theorem rm_takeWord {w9 : Nat} {z9 : tk_st} (hw : w9 < 26) (hX : pg_isX11 Λ) (hk : tk_ok tp) (hR : rm_R M tp n9 z9) : pg_Ev S Λ YX11_takeWord (d + 2) [.ref 207, .int (nI w9)] M (fun r M' => r = none ∧ (rm_R M' tp n9 (if tk_isW tp w9 z9 = true then tk_next z9 else tk_fail tp 1 z9) ∧ rm_rf M M')) := by
  refine oX11_takeWord (sX11_takeWord_0 (Q0 := fun v M' => v = b2i (tk_isW tp w9 z9) ∧ rm_R M' tp n9 (if tk_isW tp w9 z9 = true then tk_next z9 else z9) ∧ rm_rf M M') (Q1 := fun M' => rm_R M' tp n9 (if tk_isW tp w9 z9 = true then tk_next z9 else tk_fail tp 1 z9) ∧ rm_rf M M') hX (rm_hasWord hw hX hk hR) ?_ ?_ ?_)
  · rintro v9 Mq1 ⟨e8, g1, g2⟩ q9
    rw [e8, b2i_0, Bool.not_eq_false] at q9
    rw [if_pos q9] at g1 ⊢
    exact ⟨rfl, g1, g2⟩
  · rintro v9 Mq1 ⟨e8, g1, g2⟩ q9
    rw [e8, b2i_0] at q9
    rw [if_neg (by rw [q9]; decide)] at g1 ⊢
    refine pg_Ev.imp ?_ (rm_wrong (S := S) (d := d + 1) (m9 := 1) (by omega) (by omega) hX hk g1)
    rintro q7 M9 ⟨y1, y2, y3, _⟩
    exact ⟨y1, y2, g2.trans y3⟩
  · rintro v9 Mq1 _ _ Mq2 g9; exact ⟨rfl, g9⟩
theorem rm_takeAfter_e {e9 w9 : Nat} {x9 y9 : Int32} (hw : w9 < 26) (hX : pg_isX11 Λ) (hk : tk_ok tp) (hR : rm_R M tp n9 (.error e9)) : pg_Ev S Λ YX11_takeAfter (d + 3) [.ref 207, .int (nI w9), .int x9, .int y9] M (fun r M' => ∃ v, r = some (.int v) ∧ (rm_R M' tp n9 (.error e9) ∧ rm_rf M M')) := by
  refine oX11_takeAfter (sX11_takeAfter_0 (Q0 := fun M' => rm_R M' tp n9 (.error e9) ∧ rm_rf M M') (Q1 := fun _ M' => rm_R M' tp n9 (.error e9) ∧ rm_rf M M') hX (rm_takeWord hw hX hk hR) ?_ (fun Mq1 _ v9 Mq2 g9 => ⟨_, rfl, g9⟩))
  rintro Mq1 ⟨g1, g2⟩
  refine pg_Ev.mono (by omega) (pg_Ev.imp ?_ (rm_takeNumber_e (S := S) (d := d) hX g1))
  rintro q7 M9 ⟨v9, y1, y2⟩
  rw [y2]
  exact ⟨v9, y1, g1, g2⟩
theorem rm_takeAfter {w9 lo hi : Nat} (hw : w9 < 26) (hlo : lo < 2 ^ 31) (hhi : hi < 2 ^ 31) (hX : pg_isX11 Λ) (hk : tk_ok tp) (hR : rm_R M tp n9 (.ok k9)) : pg_Ev S Λ YX11_takeAfter (d + 3) [.ref 207, .int (nI w9), .int (nI lo), .int (nI hi)] M (fun r M' => ∃ v, r = some (.int v) ∧ rm_v tp n9 M (rd_meas tp w9 lo hi k9) (k9 + 2) v M') := by
  have tw := rm_takeWord (S := S) (Λ := Λ) (d := d) hw hX hk hR
  by_cases c1 : tk_wd (tk_tok tp k9) = some w9
  · have em : rd_meas tp w9 lo hi k9 = rd_num tp lo hi (k9 + 1) := by unfold rd_meas; rw [if_pos c1]
    rw [em]
    rw [show tk_isW tp w9 (.ok k9) = true from decide_eq_true c1, if_pos rfl] at tw
    refine oX11_takeAfter (sX11_takeAfter_0 (Q0 := fun M' => rm_R M' tp n9 (.ok (k9 + 1)) ∧ rm_rf M M') (Q1 := fun v M' => rm_v tp n9 M (rd_num tp lo hi (k9 + 1)) (k9 + 2) v M') hX tw ?_ (fun Mq1 _ v9 Mq2 g9 => ⟨_, rfl, g9⟩))
    rintro Mq1 ⟨g1, g2⟩
    refine pg_Ev.mono (by omega) (pg_Ev.imp ?_ (rm_takeNumber (S := S) (d := d) hlo hhi hX hk g1))
    rintro q7 M9 ⟨v9, y1, y2, y3⟩
    exact ⟨v9, y1, g2.trans y2, y3⟩
  · have em : rd_meas tp w9 lo hi k9 = .error (1 + 16 * tk_place tp k9) := by unfold rd_meas; rw [if_neg c1]; rfl
    rw [em]
    rw [show tk_isW tp w9 (.ok k9) = false from decide_eq_false c1, if_neg (by decide)] at tw
    refine oX11_takeAfter (sX11_takeAfter_0 (Q0 := fun M' => rm_R M' tp n9 (.error (1 + 16 * tk_place tp k9)) ∧ rm_rf M M') (Q1 := fun v M' => rm_v tp n9 M (.error (1 + 16 * tk_place tp k9)) (k9 + 2) v M') hX tw ?_ (fun Mq1 _ v9 Mq2 g9 => ⟨_, rfl, g9⟩))
    rintro Mq1 ⟨g1, g2⟩
    refine pg_Ev.mono (by omega) (pg_Ev.imp ?_ (rm_takeNumber_e (S := S) (d := d) hX g1))
    rintro q7 M9 ⟨v9, y1, y2⟩
    rw [y2]
    exact ⟨v9, y1, g2, g1⟩
/-- one of four words -/
def rd_one (tp : List Nat) (k9 : Nat) : Except Nat Nat := match tk_wd (tk_tok tp k9) with
  | none => rd_e tp 1 k9
  | some j9 => if 16 ≤ j9 ∧ j9 ≤ 19 then .ok (j9 - 16) else rd_e tp 1 k9
theorem rm_takeOne (hX : pg_isX11 Λ) (hk : tk_ok tp) (hR : rm_R M tp n9 (.ok k9)) : pg_Ev S Λ YX11_takeOne (d + 2) [.ref 207, .int 16, .int 4] M (fun r M' => ∃ v, r = some (.int v) ∧ rm_v tp n9 M (rd_one tp k9) (k9 + 1) v M') := by
  have w1 := rm_wrong (S := S) (Λ := Λ) (d := d + 1) (m9 := 1) (by omega) (by omega) hX hk hR
  have wh := rm_wordHere (S := S) (Λ := Λ) (d := d) (a9 := 16) (m9 := 4) (by omega) hX hk hR
  have hh9 : tk_here tp 16 4 (.ok k9) = (match tk_wd (tk_tok tp k9) with
    | none => (-1 : Int32)
    | some j9 => if 16 ≤ j9 ∧ j9 < 16 + 4 then nI (j9 - 16) else -1) := rfl
  have bad : ∀ (s0 : Int32), ¬ 0 ≤ s0 → rd_one tp k9 = .error (1 + 16 * tk_place tp k9) → pg_At S Λ YX11_takeOne (d + 2) 17 [(0, .ref 207)] [.int s0] M (fun r M' => ∃ v, r = some (.int v) ∧ rm_v tp n9 M (rd_one tp k9) (k9 + 1) v M') := fun s0 q9 he => by
    refine sX11_takeOne_17 (Q0 := fun M' => rm_R M' tp n9 (.error (1 + 16 * tk_place tp k9)) ∧ rm_rf M M' ∧ M'.1 207 7 = M.1 207 7) hX (fun c => absurd hR.z0 c) (fun _ c => absurd c q9) (fun _ _ => w1) (fun _ _ Mq1 y9 => ?_)
    have e0 : pg_si Mq1 207 7 ((Mq1.1 207 7) + 0) = Mq1 := by
      have : (Mq1.1 207 7) + 0 = Mq1.1 207 7 := Int32.add_zero _
      rw [this]
      exact pg_si_self Mq1 207 7
    have fin9 : ∀ v9 : Int32, ∃ v, (some (Value.int v9)) = some (.int v) ∧ rm_v tp n9 M (rd_one tp k9) (k9 + 1) v (pg_si Mq1 207 7 ((Mq1.1 207 7) + 0)) := fun v9 => ⟨_, rfl, by rw [e0]; exact y9.2.1, by rw [he, e0]; exact y9.1⟩
    exact sX11_takeOne_34 hX (fun c => absurd c y9.1.fle) (fun c => absurd c y9.1.fle) (fun _ _ => fin9 _) (fun _ _ => fin9 _)
  refine oX11_takeOne (sX11_takeOne_0 (Q0 := fun v M' => v = tk_here tp 16 4 (.ok k9) ∧ M' = M) hX (fun _ => wh) ?_ (fun c => absurd hR.f0 c))
  rintro _ v9 Mq1 ⟨e8, e9⟩
  rw [e8, e9]
  cases hw : tk_wd (tk_tok tp k9) with
  | none =>
    rw [hw] at hh9
    exact bad _ (by rw [hh9]; decide) (by unfold rd_one; rw [hw]; rfl)
  | some j9 =>
    rw [hw] at hh9
    have jl := tk_wd_lt hw
    by_cases c9 : 16 ≤ j9 ∧ j9 ≤ 19
    · have h8 : tk_here tp 16 4 (.ok k9) = nI (j9 - 16) := by
        rw [hh9]; show (if 16 ≤ j9 ∧ j9 < 16 + 4 then nI (j9 - 16) else -1) = _
        rw [if_pos (by omega)]
      have he : rd_one tp k9 = .ok (j9 - 16) := by
        unfold rd_one; rw [hw]
        show (if 16 ≤ j9 ∧ j9 ≤ 19 then _ else rd_e tp 1 k9) = _
        rw [if_pos c9]
      have po : 0 ≤ tk_here tp 16 4 (.ok k9) := by rw [h8, ← nI_0, nI_leI (by decide) (by omega)]; omega
      obtain ⟨a1, a2⟩ := hR.adv (by rw [tk_wd_2 hw]; decide)
      refine sX11_takeOne_17 (Q0 := fun _ => True) hX (fun c => absurd hR.z0 c) (fun _ _ => ?_) (fun _ c => absurd po c) (fun _ c => absurd po c)
      refine sX11_takeOne_34 hX (fun _ _ => ⟨_, rfl, a2, by rw [he]; exact ⟨a1, h8⟩⟩) (fun _ c => absurd a1.f0 c) (fun c => absurd hR.f0 c) (fun c => absurd hR.f0 c)
    · refine bad _ ?_ ?_
      · rw [hh9]
        show ¬ 0 ≤ (if 16 ≤ j9 ∧ j9 < 16 + 4 then nI (j9 - 16) else -1)
        rw [if_neg (by omega)]; decide
      · unfold rd_one; rw [hw]
        show (if 16 ≤ j9 ∧ j9 ≤ 19 then _ else rd_e tp 1 k9) = _
        rw [if_neg c9]; rfl
theorem rm_isName (hX : pg_isX11 Λ) (hk : tk_ok tp) (hR : rm_R M tp n9 (.ok k9)) : pg_Ev S Λ YX11_isName (d + 2) [.ref 207] M (fun r M' => ∃ v, r = some (.int v) ∧ (v = b2i (rd_nm tp k9) ∧ M' = M)) := by
  have s1 := hR.s1 hk
  have wh := rm_wordHere (S := S) (Λ := Λ) (d := d) (a9 := 0) (m9 := 23) (by omega) hX hk hR
  have hh9 : tk_here tp 0 23 (.ok k9) = (match tk_wd (tk_tok tp k9) with
    | none => (-1 : Int32)
    | some j9 => if 0 ≤ j9 ∧ j9 < 0 + 23 then nI (j9 - 0) else -1) := rfl
  refine oX11_isName (sX11_isName_0 (Q0 := fun v M' => v = tk_here tp 0 23 (.ok k9) ∧ M' = M) hX (fun c => absurd hR.z0 c) (fun _ => hR.vin) (fun _ q9 => ⟨_, rfl, ?_, rfl⟩) (fun _ _ => wh) ?_ ?_)
  · have : ¬ (tk_tok tp k9).1 = 2 := fun c => q9 (s1.mpr c)
    unfold rd_nm
    rw [decide_eq_false this]; rfl
  all_goals
    rintro _ q9 v9 Mq1 ⟨e8, e9⟩ q8
    refine ⟨_, rfl, ?_, e9⟩
    have t2 := s1.mp q9
    unfold rd_nm
    rw [decide_eq_true t2]
    rw [e8, hh9] at q8
    cases hw : tk_wd (tk_tok tp k9) with
    | none =>
      rw [hw] at q8
      first
        | rfl
        | exact absurd q8 (by decide)
    | some j9 =>
      rw [hw] at q8
      have jl := tk_wd_lt hw
      show _ = b2i (true && decide (23 ≤ j9))
      by_cases c9 : 23 ≤ j9
      · rw [decide_eq_true c9]
        have q8 : _ := q8
        simp only [show ¬ (0 ≤ j9 ∧ j9 < 0 + 23) by omega, if_false] at q8
        first
          | rfl
          | exact absurd q8 (by decide)
      · rw [decide_eq_false c9]
        simp only [show (0 ≤ j9 ∧ j9 < 0 + 23) by omega, and_self, if_true] at q8
        first
          | rfl
          | (rw [← nI_0, nI_leI (by decide) (by omega)] at q8; exact absurd (Nat.zero_le _) q8)
end PGR
