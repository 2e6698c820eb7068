/-! the class: clashes, mend, decades -/
theorem fb_sm_ct (p : Nat → Bool) : ∀ n, fb_sm (fun c => if p c then 1 else 0) n = fb_ct p n := by
  intro n
  induction n with
  | zero => rfl
  | succ n ih => rw [fb_sm_succ, fb_ct_succ, ih]
theorem sp_cl_swap {P : Nat → Nat → Bool} (n : Nat) (hP : ∀ a e, a < n → e < n → P a e = P e a) : ∀ m, m ≤ n → fb_sm (fun c => fb_ct (fun e => decide (c < e) && P c e) m) m = fb_sm (fun a => fb_ct (P a) a) m := by
  intro m
  induction m with
  | zero => intro _; rfl
  | succ m ih =>
    intro hm
    rw [fb_sm_succ, fb_sm_succ, ← ih (by omega)]
    have h1 : fb_ct (fun e => decide (m < e) && P m e) (m + 1) = 0 := by
      rw [fb_ct_zero]; intro k hk; rw [decide_eq_false (by omega)]; rfl
    have h2 : fb_sm (fun c => fb_ct (fun e => decide (c < e) && P c e) (m + 1)) m = fb_sm (fun c => fb_ct (fun e => decide (c < e) && P c e) m) m + fb_ct (P m) m := by
      rw [← fb_sm_ct (P m) m, ← fb_sm_add]
      refine fb_sm_cong (fun c hc => ?_)
      rw [fb_ct_succ, decide_eq_true hc, Bool.true_and, hP c m (by omega) (by omega)]
    rw [h1, h2, Nat.add_zero]
theorem sp_cl_eq {L : sp_N} {set : Nat} (h6 : L 4 0 ≤ 6) (hset : set < 2 ^ L 4 0) (hs : ∀ a b, a < 6 → b < 6 → L 6 (6 * a + b) = L 6 (6 * b + a)) : fb_sm (fun c => if set.testBit c then sp_pc (sp_mk (fun e => decide (c < e) && decide (L 6 (6 * c + e) = 1)) 6 &&& set) else 0) (L 4 0) = sp_cl L set := by
  have hz : ∀ e, L 4 0 ≤ e → set.testBit e = false := fun e he => Nat.testBit_lt_two_pow (Nat.lt_of_lt_of_le hset (Nat.pow_le_pow_right (by decide) he))
  unfold sp_cl
  rw [← sp_cl_swap (P := fun a e => decide (L 6 (6 * a + e) = 1) && (set.testBit a && set.testBit e)) (L 4 0) (fun a e ha he => by rw [hs a e (by omega) (by omega)]; cases set.testBit a <;> cases set.testBit e <;> rfl) (L 4 0) (Nat.le_refl _)]
  refine fb_sm_cong (fun c hc => ?_)
  by_cases q : set.testBit c = true
  · rw [if_pos q, q]
    unfold sp_pc
    rw [show 16 = L 4 0 + (16 - L 4 0) by omega, fb_ct_split]
    have h1 : fb_ct (fun k => (sp_mk (fun e => decide (c < e) && decide (L 6 (6 * c + e) = 1)) 6 &&& set).testBit (L 4 0 + k)) (16 - L 4 0) = 0 := by
      rw [fb_ct_zero]; intro k hk; rw [Nat.testBit_and, hz _ (by omega), Bool.and_false]
    rw [h1, Nat.add_zero]
    refine fb_ct_cong (fun e he => ?_)
    rw [Nat.testBit_and, sp_mk_bit, decide_eq_true (show e < 6 by omega)]
    cases decide (c < e) <;> cases decide (L 6 (6 * c + e) = 1) <;> cases set.testBit e <;> rfl
  · rw [if_neg q, ts_nt q]
    refine (fb_ct_zero.mpr (fun k hk => ?_)).symm
    simp
theorem sp_mnd_none {L : sp_N} {laws : Nat} : ∀ n, sp_mnd L laws n = none → ∀ x, x < n → sp_mmay L laws x = false := by
  intro n
  induction n with
  | zero => intro _ x hx; omega
  | succ n ih =>
    intro h x hx
    simp only [sp_mnd] at h
    split at h
    · cases h
    · rename_i hq
      by_cases e : x = n
      · subst e
        exact ts_nt (fun q => hq ⟨q, fun b hb => by rw [h] at hb; cases hb⟩)
      · exact ih h x (by omega)
theorem sp_mnd_best {L : sp_N} {laws : Nat} : ∀ n b, sp_mnd L laws n = some b → ∀ x, x < n → sp_mmay L laws x = true → sp_worth L b < sp_worth L x ∨ (sp_worth L b = sp_worth L x ∧ b ≤ x) := by
  intro n
  induction n with
  | zero => intro b h; cases h
  | succ n ih =>
    intro b h x hx hm
    simp only [sp_mnd] at h
    split at h
    · rename_i hq
      cases h
      by_cases e : x = n
      · subst e; exact Or.inr ⟨rfl, Nat.le_refl _⟩
      · cases hb : sp_mnd L laws n with
        | none => have := sp_mnd_none n hb x (by omega); rw [this] at hm; cases hm
        | some b' =>
          have := hq.2 b' hb
          have := ih b' hb x (by omega) hm
          omega
    · rename_i hq
      by_cases e : x = n
      · subst e
        have hb : ¬ sp_worth L x < sp_worth L b := fun q => hq ⟨hm, fun b' hb' => by rw [h] at hb'; cases hb'; exact q⟩
        have := (sp_mnd_lt _ b h).1
        omega
      · exact ih b h x (by omega) hm
theorem sp_mnd_is {L : sp_N} {laws n b : Nat} (hb : b < n) (hm : sp_mmay L laws b = true) (hx : ∀ x, x < n → sp_mmay L laws x = true → sp_worth L b < sp_worth L x ∨ (sp_worth L b = sp_worth L x ∧ b ≤ x)) : sp_mnd L laws n = some b := by
  cases h : sp_mnd L laws n with
  | none => have := sp_mnd_none n h b hb; rw [this] at hm; cases hm
  | some c =>
    have h1 := sp_mnd_best n c h b hb hm
    have h2 := sp_mnd_lt n c h
    have h3 := hx c h2.1 h2.2
    rw [show b = c by omega]
theorem sp_mmay_self {L : sp_N} {laws : Nat} : sp_mmay L laws laws = true := by
  unfold sp_mmay
  rw [Nat.and_self, Nat.xor_self]
  have : sp_cl L 0 = 0 := by
    unfold sp_cl
    have : (fun a => fb_ct (fun e => decide (L 6 (6 * a + e) = 1) && ((0 : Nat).testBit a && (0 : Nat).testBit e)) a) = fun _ => 0 := by
      funext a; rw [fb_ct_zero]; intro k _; simp
    rw [this, fb_sm_const]; simp
  simp [this]
theorem sp_mmay_le {L : sp_N} {laws x : Nat} (h : sp_mmay L laws x = true) : x ≤ laws := by
  unfold sp_mmay at h
  rw [Bool.and_eq_true, decide_eq_true_eq] at h
  have : x = x &&& laws := by
    apply Nat.eq_of_testBit_eq
    intro i
    rw [Nat.testBit_and]
    cases hx : x.testBit i with
    | false => rfl
    | true => rw [sp_sub_bits h.1 hx]; rfl
  rw [this]
  exact Nat.and_le_right
section PGP
variable {S : pg_S} {Λ : pg_L} {d h l : Nat} {M : pg_M} {G : sp_G} {L s : sp_N} {E : sp_E}
theorem rc_clashesAmong {set : Nat} (hset : set < 2 ^ L 4 0) (hs : ∀ a b, a < 6 → b < 6 → L 6 (6 * a + b) = L 6 (6 * b + a)) (hL : pg_isX5 Λ l) (hl : rc_L M l L E) (hk : sp_okL L E) : pg_Ev S Λ YX5_clashesAmong (d + 1) [.ref l, .int (nI set)] M (fun r M' => ∃ v, r = some (.int v) ∧ (v = nI (sp_cl L set) ∧ M' = M)) := by
  have h6 := hk.1
  have h64 : 2 ^ L 4 0 ≤ 2 ^ 6 := Nat.pow_le_pow_right (by decide) h6
  rw [← sp_cl_eq h6 hset hs]
  refine oX5_clashesAmong (sX5_clashesAmong_0 ?_)
  refine pg_loop (fun i (v : Int32) => pg_At S Λ YX5_clashesAmong (d + 1) 4 [(0, .ref l), (1, .int (nI set)), (2, .int v), (3, .int (nI i))] [] M _) (fun i v => v = nI (fb_sm (fun c => if set.testBit c then sp_pc (sp_mk (fun e => decide (c < e) && decide (L 6 (6 * c + e) = 1)) 6 &&& set) else 0) i)) (L 4 0) ?_ ?_ 0 0 (Nat.zero_le _) rfl
  · rintro v rfl
    have hm : M.1 l 10 = nI (L 4 0) := hl.1
    have c9 : nI (L 4 0) ≤ nI (L 4 0) := nI_le (Nat.le_refl _) (by omega)
    refine sX5_clashesAmong_4 hL ?_ ?_ ?_ ?_ <;> simp only [hm]
    · exact fun _ => ⟨_, rfl, rfl, trivial⟩
    all_goals exact fun c => absurd c9 c
  · rintro i v hi rfl ih
    have hm : M.1 l 10 = nI (L 4 0) := hl.1
    have c9 : ¬ nI (L 4 0) ≤ nI i := nI_ge hi (by omega)
    have bi := nb_bit (n := set) (k := i) (by omega) (by omega)
    refine sX5_clashesAmong_4 hL ?_ ?_ ?_ ?_ <;> simp only [hm]
    · exact fun c => absurd c c9
    · intro _ c1
      rw [bi] at c1
      rw [nI_1]
      refine ih _ ?_
      rw [fb_sm_succ, c1]; rfl
    · intro _ _; exact vp_in_nI (by omega) (by decide)
    · intro _ c1
      rw [bi] at c1
      rw [nI_1, nI_clamp (by omega), hl.2.2.2.2.2.2.2.1 i (by omega), fa_and, sp_pc_bc _ (Nat.lt_of_le_of_lt Nat.and_le_right (by omega)), nI_add]
      refine ih _ ?_
      rw [fb_sm_succ, if_pos (ts_nf c1)]
theorem rc_clashes (hF : pg_full Λ) (hg : rc_G M G) (hk : sp_okG G h) : pg_Ev S Λ YX10_clashes (d + 3) [.ref 0] M (fun r M' => ∃ v, r = some (.int v) ∧ (v = nI (sp_cl G.L (sp_laws G.L G.s)) ∧ rc_G M' G ∧ rc_out M M')) := by
  have hL := hg.d.x5 hF
  refine oX10_clashes (sX10_clashes_0 (Q0 := fun v M' => v = nI (sp_laws G.L G.s) ∧ M' = M) (Q1 := fun v M' => v = nI (sp_cl G.L (sp_laws G.L G.s)) ∧ M' = M) hF.x10 hF.now hL (rc_lawBits hF.now hL hg.s hg.l hk.l hk.s.1) ?_ ?_)
  · rintro v M1 ⟨rfl, rfl⟩; exact rc_clashesAmong (sp_mk_lt _ _) hk.c.1 hL hg.l hk.l
  · rintro v M1 _ v2 M2 ⟨rfl, rfl⟩; exact ⟨_, rfl, rfl, hg, rc_out.rfl'⟩
theorem rc_mend {w : Int32} (hF : pg_full Λ) (hg : rc_G M G) (hk : sp_okG G h) : pg_Ev S Λ YX10_mend (d + 3) [.ref 0, .int w] M (fun r M' => ∃ v, r = some (.int v) ∧ (v = sp_qmend G w ∧ rc_G M' G ∧ rc_out M M')) := by
  have hL := hg.d.x5 hF
  have h6 := hk.l.1
  have h64 : 2 ^ G.L 4 0 ≤ 2 ^ 6 := Nat.pow_le_pow_right (by decide) h6
  have hlw : sp_laws G.L G.s < 2 ^ G.L 4 0 := sp_mk_lt _ _
  have hlb : pg_Ev S Λ YX9_lawBits (d + 2) [.ref 3, .ref (M.2.2 0 8)] M (fun r M' => ∃ v, r = some (.int v) ∧ (v = nI (sp_laws G.L G.s) ∧ M' = M)) := rc_lawBits hF.now hL hg.s hg.l hk.l hk.s.1
  have key : (w = 0 ∨ w = 1) → pg_At S Λ YX10_mend (d + 3) 38 [(0, .ref 0), (1, .int w), (2, .int (nI (sp_laws G.L G.s))), (3, .int (nI (sp_laws G.L G.s))), (4, .int (nI (sp_worth G.L (sp_laws G.L G.s)))), (5, .int (nI (sp_laws G.L G.s)))] [] M (fun r M' => ∃ v, r = some (.int v) ∧ (v = sp_qmend G w ∧ rc_G M' G ∧ rc_out M M')) := by
    intro hw
    have hq : ∀ b, sp_mnd G.L (sp_laws G.L G.s) (2 ^ G.L 4 0) = some b → sp_qmend G w = if w = 0 then nI (sp_worth G.L b) else nI b := fun b e => by
      unfold sp_qmend
      rw [e]
      rcases hw with rfl | rfl
      · rfl
      · rfl
    generalize sp_laws G.L G.s = laws at hlw hq ⊢
    have hself : sp_mmay G.L laws laws = true := sp_mmay_self
    refine pg_loop (fun i (q : Nat) => pg_At S Λ YX10_mend (d + 3) 38 [(0, .ref 0), (1, .int w), (2, .int (nI laws)), (3, .int (nI q)), (4, .int (nI (sp_worth G.L q))), (5, .int (if i ≤ laws then nI (laws - i) else -1))] [] M _) (fun i b => b ≤ laws ∧ sp_mmay G.L laws b = true ∧ ∀ x, x ≤ laws → laws < x + i → sp_mmay G.L laws x = true → sp_worth G.L b < sp_worth G.L x ∨ (sp_worth G.L b = sp_worth G.L x ∧ b ≤ x)) (laws + 1) ?_ ?_ 0 laws (Nat.zero_le _) ⟨Nat.le_refl _, hself, fun x h1 h2 _ => by omega⟩
    · rintro b ⟨b1, b2, b3⟩
      have hb := sp_mnd_is (n := 2 ^ G.L 4 0) (by omega) b2 (fun x hx hm => by have := sp_mmay_le hm; exact b3 x this (by omega) hm)
      rw [if_neg (by omega)]
      have e := hq b hb
      have c9 : ¬ ¬ (-1 : Int32) < 0 := by decide
      refine sX10_mend_38 (Q0 := fun _ _ => True) (Q1 := fun _ _ => True) hF.x10 hL (fun _ c => ⟨_, rfl, by rw [e, if_neg c], hg, rc_out.rfl'⟩) (fun _ c => ⟨_, rfl, by rw [e, if_pos c], hg, rc_out.rfl'⟩) (fun c => absurd c c9) (fun c => absurd c c9) (fun c => absurd c c9) (fun c => absurd c c9) (fun c => absurd c c9) (fun c => absurd c c9) (fun c => absurd c c9)
    · rintro i b hi ⟨b1, b2, b3⟩ ih
      rw [if_pos (by omega)]
      have c9 : ¬ nI (laws - i) < 0 := nI_pos (by omega)
      have w1 := sp_worth_le hk.l b
      have w2 := sp_worth_le hk.l (laws - i)
      have nx : nI (laws - i) + (-1) = if i + 1 ≤ laws then nI (laws - (i + 1)) else -1 := by
        by_cases e : i + 1 ≤ laws
        · rw [if_pos e, show laws - i = (laws - (i + 1)) + 1 by omega, nI_succ]
          rw [Int32.add_assoc]; simp
        · rw [if_neg e, show laws - i = 0 by omega]; rfl
      have e1 : nI (laws - i) &&& (nI laws ^^^ (-1)) = nI ((laws - i) ^^^ ((laws - i) &&& laws)) := nb_andn _ _
      have e2 : nI laws &&& (nI (laws - i) ^^^ (-1)) = nI (laws ^^^ (laws &&& (laws - i))) := nb_andn _ _
      have l1 : (laws - i) ^^^ ((laws - i) &&& laws) < 2 ^ 6 := Nat.xor_lt_two_pow (by omega) (Nat.lt_of_le_of_lt Nat.and_le_left (by omega))
      have l2 : laws ^^^ (laws &&& (laws - i)) < 2 ^ G.L 4 0 := Nat.xor_lt_two_pow hlw (Nat.lt_of_le_of_lt Nat.and_le_left hlw)
      have l3 := sp_cl_le hk.l (laws ^^^ (laws &&& (laws - i)))
      have stay : (sp_mmay G.L laws (laws - i) = true → sp_worth G.L b < sp_worth G.L (laws - i)) → pg_At S Λ YX10_mend (d + 3) 38 [(0, .ref 0), (1, .int w), (2, .int (nI laws)), (3, .int (nI b)), (4, .int (nI (sp_worth G.L b))), (5, .int (nI (laws - i) + (-1)))] [] M (fun r M' => ∃ v, r = some (.int v) ∧ (v = sp_qmend G w ∧ rc_G M' G ∧ rc_out M M')) := fun q => by
        rw [nx]
        refine ih b ⟨b1, b2, fun x h1 h2 hm => ?_⟩
        by_cases e : x = laws - i
        · subst e; exact Or.inl (q hm)
        · exact b3 x h1 (by omega) hm
      refine sX10_mend_38 (Q0 := fun v M' => v = nI (sp_worth G.L (laws - i)) ∧ M' = M) (Q1 := fun v M' => v = nI (sp_cl G.L (laws ^^^ (laws &&& (laws - i)))) ∧ M' = M) hF.x10 hL (fun c => absurd c c9) (fun c => absurd c c9) (fun _ => pg_Ev.mono (by omega) (rc_worthOf (d := 0) (by omega) hL hg.l hk.l)) ?_ ?_ ?_ ?_ ?_ ?_
      · rintro _ v M1 ⟨rfl, rfl⟩ c1
        rw [e1, ← nI_0, nI_eq (by omega) (by omega)] at c1
        exact stay (fun q => absurd (by unfold sp_mmay at q; rw [Bool.and_eq_true, decide_eq_true_eq] at q; exact q.1) c1)
      · rintro _ v M1 ⟨rfl, rfl⟩ c1 c2
        rw [nI_ltI (by omega) (by omega)] at c2
        exact stay (fun _ => c2)
      · rintro _ v M1 ⟨rfl, rfl⟩ _ _; exact hL
      · rintro _ v M1 ⟨rfl, rfl⟩ _ _
        rw [e2]
        exact pg_Ev.mono (by omega) (rc_clashesAmong (d := 0) l2 hk.c.1 hL hg.l hk.l)
      · rintro _ v M1 ⟨rfl, rfl⟩ c1 c2 v2 M2 ⟨rfl, rfl⟩ c3
        rw [← nI_0, nI_eq (by omega) (by omega)] at c3
        exact stay (fun q => absurd (by unfold sp_mmay at q; rw [Bool.and_eq_true, decide_eq_true_eq, decide_eq_true_eq] at q; exact q.2) c3)
      · rintro _ v M1 ⟨rfl, rfl⟩ c1 c2 v2 M2 ⟨rfl, rfl⟩ c3
        rw [e1, ← nI_0, nI_eq (by omega) (by omega)] at c1
        rw [← nI_0, nI_eq (by omega) (by omega)] at c3
        rw [nI_ltI (by omega) (by omega)] at c2
        rw [nx]
        refine ih (laws - i) ⟨by omega, by unfold sp_mmay; rw [c1, c3]; rfl, fun x h1 h2 hm => ?_⟩
        by_cases e : x = laws - i
        · subst e; exact Or.inr ⟨rfl, Nat.le_refl _⟩
        · have := b3 x h1 (by omega) hm
          omega
  refine oX10_mend (sX10_mend_0 (Q0 := fun v M' => v = nI (sp_laws G.L G.s) ∧ M' = M) (Q1 := fun v M' => v = nI (sp_worth G.L (sp_laws G.L G.s)) ∧ M' = M) (Q2 := fun v M' => v = nI (sp_laws G.L G.s) ∧ M' = M) (Q3 := fun v M' => v = nI (sp_worth G.L (sp_laws G.L G.s)) ∧ M' = M) hF.x10 hF.now (fun _ => hlb) ?_ ?_ ?_ (fun _ _ => hlb) ?_ ?_ ?_ ?_)
  · rintro _ v M1 ⟨rfl, rfl⟩; exact hL
  · rintro _ v M1 ⟨rfl, rfl⟩; exact pg_Ev.mono (by omega) (rc_worthOf (d := 0) (by omega) hL hg.l hk.l)
  · rintro c v M1 ⟨rfl, rfl⟩ v2 M2 ⟨rfl, rfl⟩; exact key (Or.inl c)
  · rintro _ _ v M1 ⟨rfl, rfl⟩; exact hL
  · rintro _ _ v M1 ⟨rfl, rfl⟩; exact pg_Ev.mono (by omega) (rc_worthOf (d := 0) (by omega) hL hg.l hk.l)
  · rintro _ c v M1 ⟨rfl, rfl⟩ v2 M2 ⟨rfl, rfl⟩; exact key (Or.inr c)
  · intro c0 c1
    exact ⟨_, rfl, by unfold sp_qmend; rw [if_neg c0, if_neg c1], hg, rc_out.rfl'⟩
theorem rc_S.sj {a b k : Nat} {v : Int64} (hs : rc_S M a s) : rc_S (pg_sj M b k v) a s := hs.fr (fun _ _ => rfl)
theorem rc_draw {g m : Nat} (hg : g < 2 ^ 31) (hm : 0 < m) (hm9 : m < 2 ^ 31) (hF : pg_full Λ) (hd : M.2.1 0 12 = lN g) : pg_Ev S Λ YX10_draw d [.ref 0, .int (nI m)] M (fun r M' => ∃ v, r = some (.int v) ∧ (v = nI (sp_rnd g / 65536 % m) ∧ M' = pg_sj M 0 12 (lN (sp_rnd g)))) := by
  have c9 : (1 : Int32) ≤ nI m := by rw [show (1 : Int32) = nI 1 from rfl, nI_leI (by omega) hm9]; omega
  refine oX10_draw (sX10_draw_0 hF.x10 (fun N1 _ _ => by rw [lo_of hm9]; exact lo_ne hm (by omega)) (fun N1 hN _ => ?_) (fun N1 hN c => absurd c9 c))
  rw [hd, sp_rnd_L hg] at hN
  have e : N1.2.1 0 12 = lN (sp_rnd g) := by rw [hN, pg_sj_at]; simp [vp_updL]
  exact ⟨_, rfl, by rw [e, sp_rnd_v (sp_rnd_lt g) hm9], hN⟩
theorem rc_handle {g : Nat} (hg9 : g < 2 ^ 31) (hF : pg_full Λ) (hg : rc_G M G) (hk : sp_okG G h) (hd : M.2.1 0 12 = lN g) (hs : rc_S M 8 s) {h' : Nat} (ho : sp_okS G.L s h') : pg_Ev S Λ YX10_handleByDraws (d + 4) [.ref 0] M (fun r M' => r = none ∧ (rc_S M' 8 (sp_dch G.L s g).1 ∧ M'.2.1 0 12 = lN (sp_dch G.L s g).2 ∧ pg_pf rc_q M M')) := by
  have hL := hg.d.x5 hF
  have h6 := hk.l.1
  have hm : M.1 (M.2.2 0 8) 10 = nI (G.L 4 0) := hg.l.1
  have h00 : nI (G.L 4 0) = 0 ↔ G.L 4 0 = 0 := by rw [← nI_0, nI_eq (by omega) (by omega)]
  by_cases h0 : G.L 4 0 = 0
  · have e : sp_dch G.L s g = (s, g) := by unfold sp_dch; rw [if_pos h0]
    rw [e]
    refine oX10_handleByDraws (sX10_handleByDraws_0 (Q0 := fun _ _ => True) (Q1 := fun _ _ => True) (Q2 := fun _ _ => True) (Q3 := fun _ _ => True) (Q4 := fun _ _ => True) (Q5 := fun _ _ => True) hF.x10 hL hF.trial ?_ ?_ ?_ ?_ ?_ ?_ ?_ ?_ ?_ ?_ ?_ ?_) <;> simp only [hm]
    rotate_left 11
    · intro _; exact ⟨trivial, hs, hd, pg_pf.rfl'⟩
    all_goals exact fun c => absurd (h00.mpr h0) c
  · have e : sp_dch G.L s g = sp_dcl G.L s g := by unfold sp_dch; rw [if_neg h0]
    rw [e]
    have hc : sp_rnd g / 65536 % G.L 4 0 < G.L 4 0 := Nat.mod_lt _ (by omega)
    unfold sp_dcl
    have hdr := rc_draw (S := S) (d := d + 3) (M := M) (m := G.L 4 0) hg9 (by omega) (by omega) hF hd
    generalize sp_rnd g / 65536 % G.L 4 0 = c at hc hdr ⊢
    have hcl : (nI c).toNatClampNeg = c := nI_clamp (by omega)
    have h28 := sp_lt8 (c := c) ho
    have p1 : pg_pf rc_q M (pg_sj M 0 12 (lN (sp_rnd g))) := pg_pf.sj (by unfold rc_q; omega)
    have s1 : rc_S (pg_sj M 0 12 (lN (sp_rnd g))) 8 s := hs.sj
    have l1 := hg.lq p1
    have d1 : (pg_sj M 0 12 (lN (sp_rnd g))).2.1 0 12 = lN (sp_rnd g) := by rw [pg_sj_at]; simp [vp_updL]
    have p2 : pg_pf rc_q M (pg_sj (pg_sj M 0 12 (lN (sp_rnd g))) 0 12 (lN (sp_rnd (sp_rnd g)))) := p1.trans (pg_pf.sj (by unfold rc_q; omega))
    have d2 : (pg_sj (pg_sj M 0 12 (lN (sp_rnd g))) 0 12 (lN (sp_rnd (sp_rnd g)))).2.1 0 12 = lN (sp_rnd (sp_rnd g)) := by rw [pg_sj_at]; simp [vp_updL]
    have hh : (pg_sj M 0 12 (lN (sp_rnd g))).1 11 (nI c).toNatClampNeg = nI (s 2 c) := by rw [hcl]; exact (hs.2.2.1 c (by omega)).2.2
    have hz : nI (s 2 c) = 0 ↔ s 2 c = 0 := by rw [← nI_0, nI_eq (by omega) (by omega)]
    have hn4 : 2 ≤ sp_needs G.L c ∧ sp_needs G.L c ≤ 4 := by rcases sp_needs_or G.L c with h | h <;> omega
    have hff := sp_ff_lt (L := G.L) (c := c) ho
    have hix : sp_ix (G.L 4 0) (nI c) = some c := sp_ix_nI (by omega) hc
    refine oX10_handleByDraws (sX10_handleByDraws_0 (Q0 := fun v M' => v = nI c ∧ M' = pg_sj M 0 12 (lN (sp_rnd g))) (Q1 := fun v M' => v = nI (sp_rnd (sp_rnd g) / 65536 % 4) ∧ M' = pg_sj (pg_sj M 0 12 (lN (sp_rnd g))) 0 12 (lN (sp_rnd (sp_rnd g)))) (Q2 := fun _ M' => rc_S M' 8 ((sp_take G.L s (nI c)).getD s) ∧ M'.2.1 0 12 = lN (sp_rnd (sp_rnd g)) ∧ pg_pf rc_q M M') (Q3 := fun v M' => v = nI (sp_needs G.L c) ∧ M' = pg_sj M 0 12 (lN (sp_rnd g))) (Q4 := fun v M' => v = nI (sp_ff (sp_free s) (sp_needs G.L c)) ∧ M' = pg_sj M 0 12 (lN (sp_rnd g))) (Q5 := fun _ M' => rc_S M' 8 ((sp_hang G.L s (nI c) (nI (sp_ff (sp_free s) (sp_needs G.L c)))).getD s) ∧ M'.2.1 0 12 = lN (sp_rnd g) ∧ pg_pf rc_q M M') hF.x10 hL hF.trial ?_ ?_ ?_ ?_ ?_ ?_ ?_ ?_ ?_ ?_ ?_ ?_) <;> simp only [hm]
    · intro _; exact hdr
    · rintro _ v M1 ⟨rfl, rfl⟩; exact vp_in_nI (by omega) (by decide)
    · rintro _ v M1 ⟨rfl, rfl⟩ _; exact rc_draw (sp_rnd_lt g) (by decide) (by decide) hF d1
    · rintro _ v M1 ⟨rfl, rfl⟩ c1 v2 M2 ⟨rfl, rfl⟩ c2
      rw [hh, hz] at c1
      rw [← nI_0, nI_eq (by omega) (by omega)] at c2
      rw [if_neg c1, if_neg c2]
      exact ⟨trivial, s1.sj, d2, p2⟩
    · rintro _ v M1 ⟨rfl, rfl⟩ c1 v2 M2 ⟨rfl, rfl⟩ c2
      refine pg_Ev.imp ?_ (pg_Ev.mono (by omega) (rc_takeIn (d := 0) (x := nI c) hF.trial hL (M := pg_sj (pg_sj M 0 12 (lN (sp_rnd g))) 0 12 (lN (sp_rnd (sp_rnd g)))) s1.sj (hg.lq p2) hk.l ho))
      rintro r M3 ⟨v, e1, e2, e3, e4⟩
      exact ⟨v, e1, e3, by rw [e4.2.1 0 (by simp)]; exact d2, p2.trans (pg_pf.of e4 (fun b hb => by simp at hb; unfold rc_q; omega))⟩
    · rintro _ v M1 ⟨rfl, rfl⟩ c1 v2 M2 ⟨rfl, rfl⟩ c2 v3 M3 ⟨a1, a2, a3⟩
      rw [hh, hz] at c1
      rw [← nI_0, nI_eq (by omega) (by omega)] at c2
      have ht : sp_take G.L s (nI c) = some (sp_up s 2 c 0) := by unfold sp_take; rw [hix]; simp [c1]
      rw [ht] at a1
      rw [if_neg c1, if_pos c2]
      exact ⟨trivial, a1, a2, a3⟩
    · rintro _ v M1 ⟨rfl, rfl⟩ _; exact hL
    · rintro _ v M1 ⟨rfl, rfl⟩ _; exact rc_pegsFor hc hL l1 hk.l
    · rintro _ v M1 ⟨rfl, rfl⟩ _ v2 M2 ⟨rfl, rfl⟩
      exact pg_Ev.mono (by omega) (rc_firstFree (d := 0) hn4.2 hF.trial s1 ho)
    · rintro _ v M1 ⟨rfl, rfl⟩ _ v2 M2 ⟨rfl, rfl⟩ v3 M3 ⟨rfl, rfl⟩
      refine pg_Ev.imp ?_ (rc_hangUp (x := nI c) hF.trial hL s1 l1 hk.l ho)
      rintro r M4 ⟨v, e1, e2, e3, e4⟩
      exact ⟨v, e1, e3, by rw [e4.2.1 0 (by simp)]; exact d1, p1.trans (pg_pf.of e4 (fun b hb => by simp at hb; unfold rc_q; omega))⟩
    · rintro _ v M1 ⟨rfl, rfl⟩ c1 v2 M2 ⟨rfl, rfl⟩ v3 M3 ⟨rfl, rfl⟩ v4 M4 ⟨a1, a2, a3⟩
      rw [hh, hz] at c1
      have ht : sp_hang G.L s (nI c) (nI (sp_ff (sp_free s) (sp_needs G.L c))) = if sp_may G.L s c (sp_ff (sp_free s) (sp_needs G.L c)) then some (sp_up s 2 c (sp_ff (sp_free s) (sp_needs G.L c))) else none := by unfold sp_hang; rw [hix, sp_ix_nI (by decide) hff]; rfl
      rw [ht] at a1
      rw [if_pos c1]
      refine ⟨trivial, ?_, a2, a3⟩
      split at a1
      · rename_i q; simp only [q, if_true]; exact a1
      · rename_i q; simp only [q]; exact a1
    · intro c; exact absurd (h00.mp c) h0
theorem rc_decades {x y z : Int32} (hh : h < 2 ^ 29) (hF : pg_full Λ) (hg : rc_G M G) (hk : sp_okG G h) : pg_Ev S Λ YX10_decades (d + 6) [.ref 0, .int x, .int y, .int z] M (fun r M' => ∃ v, r = some (.int v) ∧ (v = sp_qdec G x y z ∧ rc_G M' G ∧ rc_out M M')) := by
  have hL := hg.d.x5 hF
  have gdl := hg.d.l
  have no : ∀ q : sp_qdec G x y z = -1, ∃ v, (some (Value.int (-1)) = some (Value.int v)) ∧ (v = sp_qdec G x y z ∧ rc_G M G ∧ rc_out M M) := fun q => ⟨-1, rfl, q.symm, hg, rc_out.rfl'⟩
  have nx : (sp_ix 10000 x = none ∨ sp_ix 61 y = none ∨ sp_ix 61 y = some 0 ∨ sp_ix 3 z = none) → sp_qdec G x y z = -1 := fun q => by
    unfold sp_qdec
    rcases q with q | q | q | q
    · rw [q]
    · rw [q]; cases sp_ix 10000 x <;> rfl
    · rw [q]; cases sp_ix 10000 x <;> cases sp_ix 3 z <;> rfl
    · rw [q]; cases sp_ix 10000 x <;> cases sp_ix 61 y <;> rfl
  have no1 : (x < 0 ∨ (9999 : Int32) < x) → sp_ix 10000 x = none := fun q => by
    rw [sp_ix_none (by decide)]
    rintro k hk1 rfl
    rcases q with q | q
    · exact nI_pos (by omega) q
    · rw [show (9999 : Int32) = nI 9999 from rfl, nI_ltI (by omega) (by omega)] at q; omega
  have no2 : (y < 1 ∨ (60 : Int32) < y) → sp_ix 61 y = none ∨ sp_ix 61 y = some 0 := fun q => by
    cases hi : sp_ix 61 y with
    | none => exact Or.inl rfl
    | some k =>
      obtain ⟨a, rfl⟩ := (sp_ix_some (by decide)).mp hi
      rcases q with q | q
      · rw [show (1 : Int32) = nI 1 from rfl, nI_ltI (by omega) (by omega)] at q
        rw [show k = 0 by omega]; exact Or.inr rfl
      · rw [show (60 : Int32) = nI 60 from rfl, nI_ltI (by omega) (by omega)] at q; omega
  have no3 : (z < 0 ∨ ¬ z ≤ 2) → sp_ix 3 z = none := fun q => by
    rw [sp_ix_none (by decide)]
    rintro k hk1 rfl
    rcases q with q | q
    · exact nI_pos (by omega) q
    · rw [show (2 : Int32) = nI 2 from rfl, nI_leI (by omega) (by omega)] at q; omega
  refine oX10_decades (sX10_decades_0 (Q0 := fun M' => rc_S M' 8 G.s ∧ pg_fr [8, 8 + 1, 8 + 2, 8 + 3, 8 + 4] (pg_sj M 0 12 x.toInt64) M') hF.x10 hF.trial ?_ ?_ ?_ ?_ ?_ ?_ ?_ ?_)
  · intro c; exact no (nx (Or.inl (no1 (Or.inl c))))
  · intro _ c; exact no (nx (Or.inl (no1 (Or.inr c))))
  · intro _ _ c; exact no (nx (by rcases no2 (Or.inl c) with q | q <;> simp [q]))
  · intro _ _ _ c; exact no (nx (by rcases no2 (Or.inr c) with q | q <;> simp [q]))
  · intro _ _ _ _ c; exact no (nx (Or.inr (Or.inr (Or.inr (no3 (Or.inl c))))))
  · intro _ _ _ _ _ _; exact pg_Ev.mono (by omega) (rc_copyFrom (d := 0) (M := pg_sj M 0 12 x.toInt64) hF.trial hF.now hg.s.sj hk.s.1 (by omega))
  · rintro c1 c2 c3 c4 c5 c6 M1 ⟨s1, f1⟩
    obtain ⟨g, hg1, rfl⟩ := nI_of c1
    rw [show (9999 : Int32) = nI 9999 from rfl, nI_ltI (by omega) (by omega)] at c2
    have a0 : ¬ y < 0 := fun q => c3 (by rw [fa_lt] at q ⊢; have e0 : (0 : Int32).toInt = 0 := rfl; have e1 : (1 : Int32).toInt = 1 := rfl; omega)
    obtain ⟨n, hn1, rfl⟩ := nI_of a0
    rw [show (1 : Int32) = nI 1 from rfl, nI_ltI (by omega) (by omega)] at c3
    rw [show (60 : Int32) = nI 60 from rfl, nI_ltI (by omega) (by omega)] at c4
    obtain ⟨j, hj1, rfl⟩ := nI_of c5
    rw [show (2 : Int32) = nI 2 from rfl, nI_leI (by omega) (by omega)] at c6
    have hq : sp_qdec G (nI g) (nI n) (nI j) = if j = 0 then nI (sp_dec G.L G.E G.s g n).2.2.1 else if j = 1 then nI (sp_dec G.L G.E G.s g n).2.2.2 else nI (sp_grips (sp_dec G.L G.E G.s g n).1 255 0) := by
      unfold sp_qdec; rw [sp_ix_nI (by decide) (by omega), sp_ix_nI (by decide) (by omega), sp_ix_nI (by decide) (by omega)]; simp only; rw [if_neg (by omega)]
    rw [hq, lo_of hg1] at *
    have p1 : pg_pf rc_q M M1 := (pg_pf.sj (by unfold rc_q; omega)).trans (pg_pf.of f1 (fun b hb => by simp at hb; unfold rc_q; omega))
    have d1 : M1.2.1 0 12 = lN g := by rw [f1.2.1 0 (by simp), pg_sj_at]; simp [vp_updL]
    have j0 : nI j = 0 ↔ j = 0 := by rw [← nI_0, nI_eq (by omega) (by omega)]
    have j1 : nI j = 1 ↔ j = 1 := by rw [show (1 : Int32) = nI 1 from rfl, nI_eq (by omega) (by omega)]
    refine pg_loop (fun i (m : pg_M) => pg_At S Λ YX10_decades (d + 6) 59 [(0, .ref 0), (2, .int (nI n)), (3, .int (nI j)), (4, .int (nI (sp_dec G.L G.E G.s g i).2.2.1)), (5, .int (nI (sp_dec G.L G.E G.s g i).2.2.2)), (6, .int (nI i))] [] m _) (fun i m => rc_S m 8 (sp_dec G.L G.E G.s g i).1 ∧ m.2.1 0 12 = lN (sp_dec G.L G.E G.s g i).2.1 ∧ pg_pf rc_q M m) n ?_ ?_ 0 M1 (Nat.zero_le _) ⟨s1, d1, p1⟩
    · rintro m ⟨m1, m2, m3⟩
      have ok := (sp_dec_ok (E := G.E) hk.l hk.s.1 (show g < 2 ^ 31 by omega) n).1
      have c9 : nI n ≤ nI n := nI_le (Nat.le_refl _) (by omega)
      have o8 := ok.1
      have hbits : ((1 : Int32) <<< (m.1 8 4 &&& 31)) - 1 = nI (2 ^ (sp_dec G.L G.E G.s g n).1 4 0 - 1) := by
        rw [m1.1, nb_pow (by omega)]
        have : 0 < 2 ^ (sp_dec G.L G.E G.s g n).1 4 0 := Nat.pow_pos (by decide)
        rw [show 2 ^ (sp_dec G.L G.E G.s g n).1 4 0 = (2 ^ (sp_dec G.L G.E G.s g n).1 4 0 - 1) + 1 by omega, nI_pred]
        simp
      have hgr : sp_grips (sp_dec G.L G.E G.s g n).1 (2 ^ (sp_dec G.L G.E G.s g n).1 4 0 - 1) 0 = sp_grips (sp_dec G.L G.E G.s g n).1 255 0 := by
        unfold sp_grips
        refine fb_sm_cong (fun p hp => ?_)
        rw [Nat.testBit_two_pow_sub_one, decide_eq_true hp, show (255 : Nat) = 2 ^ 8 - 1 from rfl, Nat.testBit_two_pow_sub_one, decide_eq_true (by omega)]
      have h256 : 2 ^ (sp_dec G.L G.E G.s g n).1 4 0 ≤ 2 ^ 8 := Nat.pow_le_pow_right (by decide) o8
      refine sX10_decades_59 (Q0 := fun v M' => v = nI (sp_grips (sp_dec G.L G.E G.s g n).1 255 0) ∧ M' = m) (Q1 := fun _ => True) (Q2 := fun _ _ => True) (Q3 := fun _ _ => True) (Q4 := fun _ _ => True) (Q5 := fun _ _ => True) (Q6 := fun _ _ => True) hF.x10 hF.trial ?_ ?_ ?_ ?_ ?_ ?_ ?_ ?_ ?_ ?_ ?_ ?_ ?_
      · intro _ _ _; rw [hbits, ← hgr]; exact pg_Ev.mono (by omega) (rc_gripsOf (d := 0) (by omega) hF.trial m1 ok)
      · rintro _ n0 n1 v M2 ⟨rfl, rfl⟩; rw [j0] at n0; rw [j1] at n1; exact ⟨_, rfl, by rw [if_neg n0, if_neg n1], hg.q m3, rc_out.q m3⟩
      · intro _ n0 n1; rw [j0] at n0; rw [j1] at n1; exact ⟨_, rfl, by rw [if_neg n0, if_pos n1], hg.q m3, rc_out.q m3⟩
      · intro _ n0; rw [j0] at n0; exact ⟨_, rfl, by rw [if_pos n0], hg.q m3, rc_out.q m3⟩
      all_goals exact fun c => absurd c9 c
    · rintro i m hi ⟨m1, m2, m3⟩ ih
      have c9 : ¬ nI n ≤ nI i := nI_ge hi (by omega)
      obtain ⟨ok, og, _, _⟩ := sp_dec_ok (E := G.E) hk.l hk.s.1 (show g < 2 ^ 31 by omega) i
      have hst : sp_dec G.L G.E G.s g (i + 1) = ((sp_hour G.L G.E (sp_dch G.L (sp_dec G.L G.E G.s g i).1 (sp_dec G.L G.E G.s g i).2.1).1 (sp_gu G.L (sp_rnd (sp_dch G.L (sp_dec G.L G.E G.s g i).1 (sp_dec G.L G.E G.s g i).2.1).2))).1, sp_rnd (sp_dch G.L (sp_dec G.L G.E G.s g i).1 (sp_dec G.L G.E G.s g i).2.1).2, (sp_dec G.L G.E G.s g i).2.2.1 + sp_pc (sp_laws G.L (sp_hour G.L G.E (sp_dch G.L (sp_dec G.L G.E G.s g i).1 (sp_dec G.L G.E G.s g i).2.1).1 (sp_gu G.L (sp_rnd (sp_dch G.L (sp_dec G.L G.E G.s g i).1 (sp_dec G.L G.E G.s g i).2.1).2))).1), (sp_dec G.L G.E G.s g i).2.2.2 + (sp_hour G.L G.E (sp_dch G.L (sp_dec G.L G.E G.s g i).1 (sp_dec G.L G.E G.s g i).2.1).1 (sp_gu G.L (sp_rnd (sp_dch G.L (sp_dec G.L G.E G.s g i).1 (sp_dec G.L G.E G.s g i).2.1).2))).2) := rfl
      have okc := sp_dch_ok hk.l ok og
      generalize sp_dec G.L G.E G.s g i = D at m1 m2 ok og hst okc ⊢
      have hh1 := rc_handle (S := S) (d := d + 1) (M := m) (G := G) (h := h) og hF (hg.q m3) hk m2 m1 ok
      generalize sp_dch G.L D.1 D.2.1 = C at hst okc hh1
      have hg10 : nI (sp_rnd C.2 / 65536 % 10) = nI (sp_rnd C.2 / 65536 % 10) := rfl
      have hl42 := hk.l.2.2.2.1
      have fin : ∀ (gu : Nat), gu ≤ 3 → gu = sp_gu G.L (sp_rnd C.2) → ∀ m5 : pg_M, rc_S m5 8 (sp_hour G.L G.E C.1 gu).1 → m5.2.1 0 12 = lN (sp_rnd C.2) → pg_pf rc_q M m5 → pg_At S Λ YX10_decades (d + 6) 59 [(0, .ref 0), (2, .int (nI n)), (3, .int (nI j)), (4, .int (nI D.2.2.1 + pg_bc (nI (sp_laws G.L (sp_hour G.L G.E C.1 gu).1)))), (5, .int (nI D.2.2.2 + nI (sp_hour G.L G.E C.1 gu).2)), (6, .int (nI i + 1))] [] m5 (fun r M' => ∃ v, r = some (.int v) ∧ (v = (if j = 0 then nI (sp_dec G.L G.E G.s g n).2.2.1 else if j = 1 then nI (sp_dec G.L G.E G.s g n).2.2.2 else nI (sp_grips (sp_dec G.L G.E G.s g n).1 255 0)) ∧ rc_G M' G ∧ rc_out M M')) := by
        rintro gu _ rfl m5 q1 q2 q3
        have hlw := sp_laws_lt (s := (sp_hour G.L G.E C.1 (sp_gu G.L (sp_rnd C.2))).1) hk.l
        rw [sp_pc_bc _ (by omega), nI_add, nI_add, nI_1]
        have := ih m5 (by rw [hst]; exact ⟨q1, q2, q3⟩)
        rw [hst] at this
        exact this
      have gdq := hg.d
      have hour : ∀ (gu : Nat), gu ≤ 3 → ∀ m3' : pg_M, rc_S m3' 8 C.1 → m3'.2.1 0 12 = lN (sp_rnd C.2) → pg_pf rc_q M m3' → pg_Ev S Λ YX9_passHour (d + 5) [.ref 8, .ref (M.2.2 0 8), .int (nI gu)] m3' (fun r M' => ∃ v, r = some (.int v) ∧ (v = nI (sp_hour G.L G.E C.1 gu).2 ∧ rc_S M' 8 (sp_hour G.L G.E C.1 gu).1 ∧ M'.2.1 0 12 = lN (sp_rnd C.2) ∧ pg_pf rc_q M M')) := by
        intro gu hgu m3' q1 q2 q3
        refine pg_Ev.imp ?_ (pg_Ev.mono (by omega) (rc_passHour (d := 0) (gust := gu) (h := h + i) (by omega) hgu hF.trial hL q1 (hg.lq q3) hk.l okc.1 (hg.d.ap (by omega))))
        rintro r M4 ⟨v, e1, e2, e3, e4⟩
        refine ⟨v, e1, e2, e3, by rw [e4.2.1 0 (by simp)]; exact q2, q3.trans (pg_pf.of e4 (fun b hb => ?_))⟩
        simp at hb
        unfold rc_q
        omega
      have laws : ∀ (gu : Nat), ∀ m4 : pg_M, rc_S m4 8 (sp_hour G.L G.E C.1 gu).1 → pg_pf rc_q M m4 → pg_Ev S Λ YX9_lawBits (d + 5) [.ref 8, .ref (m4.2.2 0 8)] m4 (fun r M' => ∃ v, r = some (.int v) ∧ (v = nI (sp_laws G.L (sp_hour G.L G.E C.1 gu).1) ∧ M' = m4)) := by
        intro gu m4 q1 q3
        rw [q3.2.2]
        exact pg_Ev.mono (by omega) (rc_lawBits (d := 0) hF.trial hL q1 (hg.lq q3) hk.l (sp_okS.pass (gust := gu) okc.1))
      refine sX10_decades_59 (Q0 := fun _ _ => True) (Q1 := fun M' => rc_S M' 8 C.1 ∧ M'.2.1 0 12 = lN C.2 ∧ pg_pf rc_q M M') (Q2 := fun v M' => v = nI (sp_rnd C.2 / 65536 % 10) ∧ rc_S M' 8 C.1 ∧ M'.2.1 0 12 = lN (sp_rnd C.2) ∧ pg_pf rc_q M M') (Q3 := fun v M' => v = nI (sp_hour G.L G.E C.1 0).2 ∧ rc_S M' 8 (sp_hour G.L G.E C.1 0).1 ∧ M'.2.1 0 12 = lN (sp_rnd C.2) ∧ pg_pf rc_q M M') (Q4 := fun v M' => v = nI (sp_laws G.L (sp_hour G.L G.E C.1 0).1) ∧ rc_S M' 8 (sp_hour G.L G.E C.1 0).1 ∧ M'.2.1 0 12 = lN (sp_rnd C.2) ∧ pg_pf rc_q M M') (Q5 := fun v M' => v = nI (sp_hour G.L G.E C.1 3).2 ∧ rc_S M' 8 (sp_hour G.L G.E C.1 3).1 ∧ M'.2.1 0 12 = lN (sp_rnd C.2) ∧ pg_pf rc_q M M') (Q6 := fun v M' => v = nI (sp_laws G.L (sp_hour G.L G.E C.1 3).1) ∧ rc_S M' 8 (sp_hour G.L G.E C.1 3).1 ∧ M'.2.1 0 12 = lN (sp_rnd C.2) ∧ pg_pf rc_q M M') hF.x10 hF.trial ?_ ?_ ?_ ?_ ?_ ?_ ?_ ?_ ?_ ?_ ?_ ?_ ?_
      · exact fun c => absurd c c9
      · exact fun c => absurd c c9
      · exact fun c => absurd c c9
      · exact fun c => absurd c c9
      · intro _
        refine pg_Ev.imp ?_ hh1
        rintro r M2 ⟨e1, e2, e3, e4⟩
        exact ⟨e1, e2, e3, m3.trans e4⟩
      · rintro _ M2 ⟨a1, a2, a3⟩
        refine pg_Ev.imp ?_ (rc_draw (m := 10) okc.2 (by decide) (by decide) hF a2)
        rintro r M3 ⟨v, e1, e2, rfl⟩
        exact ⟨v, e1, e2, a1, by rw [pg_sj_at]; simp [vp_updL], a3.trans (pg_pf.sj (by unfold rc_q; omega))⟩
      · rintro _ M2 _ v M3 ⟨rfl, a1, a2, a3⟩; rw [a3.2.2]; exact hL
      · rintro _ M2 ⟨_, _, b3⟩ v M3 ⟨rfl, a1, a2, a3⟩ _
        rw [b3.2.2]
        exact hour 0 (by omega) M3 a1 a2 a3
      · rintro _ M2 _ v M3 _ _ v4 M4 ⟨_, a1, a2, a3⟩
        refine pg_Ev.imp ?_ (laws 0 M4 a1 a3)
        rintro r M5 ⟨v, e1, e2, rfl⟩
        exact ⟨v, e1, e2, a1, a2, a3⟩
      · rintro _ M2 _ v M3 ⟨rfl, b1, b2, b3⟩ c1 v4 M4 ⟨rfl, _⟩ v5 M5 ⟨rfl, a1, a2, a3⟩
        rw [b3.2.2, (hg.lq b3).2.2.2.2.1, nI_leI (by omega) (by omega)] at c1
        exact fin 0 (by omega) (by unfold sp_gu; rw [if_neg (by omega)]) M5 a1 a2 a3
      · rintro _ M2 ⟨_, _, b3⟩ v M3 ⟨rfl, a1, a2, a3⟩ _
        rw [b3.2.2]
        exact hour 3 (by omega) M3 a1 a2 a3
      · rintro _ M2 _ v M3 _ _ v4 M4 ⟨_, a1, a2, a3⟩
        refine pg_Ev.imp ?_ (laws 3 M4 a1 a3)
        rintro r M5 ⟨v, e1, e2, rfl⟩
        exact ⟨v, e1, e2, a1, a2, a3⟩
      · rintro _ M2 _ v M3 ⟨rfl, b1, b2, b3⟩ c1 v4 M4 ⟨rfl, _⟩ v5 M5 ⟨rfl, a1, a2, a3⟩
        rw [b3.2.2, (hg.lq b3).2.2.2.2.1, nI_leI (by omega) (by omega)] at c1
        exact fin 3 (by omega) (by unfold sp_gu; rw [if_pos (by omega)]) M5 a1 a2 a3
  · intro _ _ _ _ _ c; exact no (nx (Or.inr (Or.inr (Or.inr (no3 (Or.inr c))))))
end PGP
