/-! dry: the class's plan, and the call -/
section PGR
variable {S : pg_S} {Λ : pg_L} {d h l : Nat} {M : pg_M} {G : sp_G} {L s : sp_N} {E : sp_E}
theorem rc_laundry (hh : h < 2 ^ 29) (hl9 : 169 ≤ l) (hF : pg_full Λ) (hL : pg_isX5 Λ l) (hs : rc_S M 3 s) (hl : rc_L M l L E) (hk : sp_okL L E) (ho : sp_okS L s h) : pg_Ev S Λ YX4_plan (d + 4) [.ref 164, .ref l, .ref 3] M (fun q M' => q = none ∧ (M'.1 164 4 = nI (sp_pc (sp_wsh L s)) ∧ M'.1 164 5 = (if 99 < sp_drT L E s then -1 else nI (sp_drT L E s)) ∧ (∀ k x, (sp_drR L E s)[k]? = some x → M'.1 168 k = nI x) ∧ pg_fr [164, 165, 166, 167, 168, l + 14] M M')) := by
  have h6 := hk.1
  have hN : L 4 0 ≤ 6 := h6
  have hW : sp_wsh L s < 2 ^ L 4 0 := sp_mk_lt _ _
  have hmW : sp_pc (sp_wsh L s) = sp_rk (sp_wsh L s) (L 4 0) := (sp_rk_pc (by omega) hW).symm
  have hWb := sp_wsh_bit L s
  have hT : sp_drT L E s = sp_dv (sp_dat L E s) (L 4 0) (sp_pc (sp_wsh L s)) (sp_wsh L s) 0 := rfl
  have hRR : sp_drR L E s = sp_dg (sp_dat L E s) (L 4 0) (sp_drT L E s) (sp_pc (sp_wsh L s)) (sp_wsh L s) 0 := rfl
  have hD : ∀ c n, sp_dat L E s c n ≤ 100 := fun _ _ => sp_dat_le
  rw [hRR]
  have hDat : ∀ {m : pg_M} {c t : Nat}, c < L 4 0 → t < 6 → rc_L m l L E → pg_Ev S Λ YX4_dryAt (d + 3) [.ref l, .int (nI c), .int (nI (s 4 1)), .int (nI t)] m (fun r M' => ∃ v, r = some (.int v) ∧ (v = nI (sp_dat L E s c t) ∧ pg_fr [l + 14] m M')) := fun hc ht hlm => rc_dryAt hc ht hh hL hlm hk ho
  generalize sp_drT L E s = T at hT
  generalize hDD : sp_dat L E s = D at hT hD hDat
  generalize sp_wsh L s = W at hW hmW hWb hT
  generalize hmm : sp_pc W = m at hmW hT
  have hm : m ≤ 6 := by rw [hmW]; exact Nat.le_trans (fb_ct_le _ _) hN
  have h64 : 2 ^ m ≤ 2 ^ 6 := Nat.pow_le_pow_right (by decide) hm
  have p0 : 0 < 2 ^ m := Nat.pow_pos (by decide)
  have hT9 : T ≤ 100 := by rw [hT]; exact sp_dv_le _ _ _
  have keepS : ∀ {x : pg_M}, pg_fr [164, 165, 166, 167, 168, l + 14] M x → rc_S x 3 s ∧ rc_L x l L E := fun hx => ⟨hs.keep hx (fun i hi => by simp; omega), hl.keep hx (fun j a b c => by simp; omega)⟩
  refine oX4_plan (sX4_plan_0 hF.x4 ?_)
  refine pg_loop (fun i (x : pg_M) => pg_At S Λ YX4_plan (d + 4) 7 [(0, .ref 164), (1, .ref l), (2, .ref 3), (3, .int (nI i))] [] x _) (fun i x => x.1 164 4 = nI (sp_rk W i) ∧ (∀ c, c < i → W.testBit c = true → x.1 165 (sp_rk W c) = nI c) ∧ pg_fr [164, 165, 166, 167, 168, l + 14] M x) (L 4 0) ?_ ?_ 0 _ (Nat.zero_le _) ⟨by rw [pg_si_at, pk_us]; rfl, fun c hc => by omega, pg_fr.si (by simp)⟩
  · rintro x ⟨x1, x2, x3⟩
    obtain ⟨sx, lx⟩ := keepS x3
    rw [← hmW] at x1
    have c9 : nI (L 4 0) ≤ nI (L 4 0) := nI_le (Nat.le_refl _) (by omega)
    refine sX4_plan_7 hL hF.now hF.x4 ?_ ?_ ?_ ?_ ?_ ?_ <;> simp only [lx.1]
    rotate_left
    · exact fun c => absurd c9 c
    · exact fun c => absurd c9 c
    · exact fun c => absurd c9 c
    · exact fun c => absurd c9 c
    · exact fun c => absurd c9 c
    intro _
    -- when each is dry
    refine pg_loop (fun i (x : pg_M) => pg_At S Λ YX4_plan (d + 4) 61 [(0, .ref 164), (1, .ref l), (2, .ref 3), (3, .int (nI i))] [] x _) (fun i x => x.1 164 4 = nI m ∧ (∀ c, c < L 4 0 → W.testBit c = true → x.1 165 (sp_rk W c) = nI c) ∧ (∀ c t, c < L 4 0 → t < m → W.testBit c = true → sp_rk W c < i → x.1 166 (6 * sp_rk W c + t) = nI (D c t)) ∧ pg_fr [164, 165, 166, 167, 168, l + 14] M x) m ?_ ?_ 0 x (Nat.zero_le _) ⟨x1, x2, fun c t _ _ _ z => by omega, x3⟩
    · rintro x ⟨x1, x2, x4, x3⟩
      have c8 : nI m ≤ nI m := nI_le (Nat.le_refl _) (by omega)
      have lw : rc_lw (pg_si x 167 (0 : Int32).toNatClampNeg 0) (L 4 0) W m D := ⟨by rw [pg_si_ne (by decide)]; exact x1, fun c a b => by rw [pg_si_ne (by decide)]; exact x2 c a b, fun c t a b e => by rw [pg_si_ne (by decide)]; exact x4 c t a b e (by rw [hmW]; exact sp_rk_lt e a)⟩
      have hall : ((1 : Int32) <<< ((pg_si x 167 (0 : Int32).toNatClampNeg 0).1 164 4 &&& 31)) - 1 = nI (2 ^ m - 1) := by
        rw [lw.1, nb_pow (by omega), show 2 ^ m = (2 ^ m - 1) + 1 by omega, nI_pred]; simp
      refine sX4_plan_61 hF.x4 ?_ ?_ <;> simp only [x1]
      rotate_left
      · exact fun c => absurd c8 c
      intro _
      rw [hall]
      -- how soon each set
      refine pg_loop (fun i (x : pg_M) => pg_At S Λ YX4_plan (d + 4) 140 [(0, .ref 164), (3, .int (nI (2 ^ m - 1))), (4, .int (nI (i + 1)))] [] x _) (fun i x => rc_lw x (L 4 0) W m D ∧ rc_lt x (L 4 0) W m (i + 1) D ∧ pg_fr [164, 165, 166, 167, 168, l + 14] M x) (2 ^ m - 1) ?_ ?_ 0 _ (Nat.zero_le _) ⟨lw, fun u hu => ?_, x3.trans (pg_fr.si (by simp))⟩
      · rintro x ⟨a1, a2, a3⟩
        rw [show 2 ^ m - 1 + 1 = 2 ^ m by omega] at a2 ⊢
        have c7 : nI (2 ^ m - 1) < nI (2 ^ m) := nI_lt (by omega) (by omega)
        have hpall : sp_pc (2 ^ m - 1) = m := by
          rw [← sp_rk_pc (N := m) (by omega) (by omega)]
          exact fb_ct_all.mpr (fun k hk => by rw [Nat.testBit_two_pow_sub_one]; exact decide_eq_true hk)
        have tall : x.1 167 (nI (2 ^ m - 1)).toNatClampNeg = nI T := by
          have := a2 (2 ^ m - 1) (by omega)
          rw [hpall, show sp_un W (L 4 0) (2 ^ m - 1) = W by rw [hmW]; exact sp_un_all hW, Nat.sub_self] at this
          rw [nI_clamp (by omega), this, hT]
        have t99 : nI T ≤ 99 ↔ T ≤ 99 := by rw [show (99 : Int32) = nI 99 from rfl, nI_leI (by omega) (by omega)]
        have lay : ∀ v : Int32, pg_Ev S Λ YX4_layOrder (d + 3) [.ref 164, .int (nI (2 ^ m - 1))] (pg_si x 164 5 v) (fun q M' => q = none ∧ ((∀ k x, (sp_dg D (L 4 0) T m W 0)[k]? = some x → M'.1 168 k = nI x) ∧ pg_fr [168] (pg_si x 164 5 v) M')) := fun v => rc_layOrder hN hW hmW hD hF.x4 (a1.fr (by rw [pg_si_at, pk_un (by decide)]) (pg_si_ne (by decide)) (pg_si_ne (by decide))) (fun u hu => by rw [pg_si_ne (by decide)]; exact a2 u hu) hT
        have fin : ∀ (v : Int32) (N1 : pg_M), v = (if 99 < T then -1 else nI T) → ((∀ k x, (sp_dg D (L 4 0) T m W 0)[k]? = some x → N1.1 168 k = nI x) ∧ pg_fr [168] (pg_si x 164 5 v) N1) → N1.1 164 4 = nI m ∧ N1.1 164 5 = (if 99 < T then -1 else nI T) ∧ (∀ k x, (sp_dg D (L 4 0) T m W 0)[k]? = some x → N1.1 168 k = nI x) ∧ pg_fr [164, 165, 166, 167, 168, l + 14] M N1 := fun v N1 e q => by
          refine ⟨by rw [q.2.1 164 (by simp), pg_si_at, pk_un (by decide)]; exact a1.1, by rw [q.2.1 164 (by simp), pg_si_at, pk_us, e], q.1, (a3.trans (pg_fr.si (by simp))).trans (q.2.mono (fun b hb => by simp at hb ⊢; omega))⟩
        refine sX4_plan_140 (Q0 := fun M' => (∀ k x, (sp_dg D (L 4 0) T m W 0)[k]? = some x → M'.1 168 k = nI x) ∧ pg_fr [168] (pg_si x 164 5 (nI T)) M') (Q1 := fun M' => (∀ k x, (sp_dg D (L 4 0) T m W 0)[k]? = some x → M'.1 168 k = nI x) ∧ pg_fr [168] (pg_si x 164 5 (-1)) M') (Q2 := fun _ _ => True) hF.x4 ?_ ?_ ?_ ?_ ?_ (fun c => absurd c7 c) (fun c => absurd c7 c) (fun c => absurd c7 c) <;> (try simp only [tall, t99])
        · intro _; exact vp_in_nI (by omega) (by decide)
        · intro _ _; exact lay _
        · intro _ q M1 q1; exact ⟨trivial, fin (nI T) M1 (by rw [if_neg (by omega)]) q1⟩
        · intro _ _; exact lay _
        · intro _ q M1 q1; exact ⟨trivial, fin (-1) M1 (by rw [if_pos (by omega)]) q1⟩
      · rintro i x hi ⟨a1, a2, a3⟩ ih
        have c7 : ¬ nI (2 ^ m - 1) < nI (i + 1) := by rw [nI_ltI (by omega) (by omega)]; omega
        obtain ⟨r, hr⟩ : ∃ r, sp_pc (i + 1) = r + 1 := by
          have := sp_pc_pos (n := i + 1) (by omega) (by omega)
          exact ⟨sp_pc (i + 1) - 1, by omega⟩
        refine sX4_plan_140 (Q0 := fun _ => True) (Q1 := fun _ => True) (Q2 := fun v M' => v = nI (sp_dv D (L 4 0) (sp_pc (i + 1)) (sp_un W (L 4 0) (i + 1)) (m - sp_pc (i + 1))) ∧ M' = x) hF.x4 (fun c => absurd c c7) (fun c => absurd c c7) (fun c => absurd c c7) (fun c => absurd c c7) (fun c => absurd c c7) (fun _ => pg_Ev.mono (by omega) (rc_soonestOf (d := 0) hN hW hmW (by omega) hD hr hF.x4 a1 a2)) ?_ ?_
        · rintro _ v M1 _; exact vp_in_nI (by omega) (by decide)
        · rintro _ v M1 ⟨rfl, rfl⟩
          rw [nI_1, nI_clamp (by omega)]
          refine ih _ ⟨a1.fr (by rw [pg_si_ne (by decide)]) (pg_si_ne (by decide)) (pg_si_ne (by decide)), fun u hu => ?_, a3.trans (pg_fr.si (by simp))⟩
          rw [pg_si_at]
          by_cases e : u = i + 1
          · subst e; rw [pk_us]
          · rw [pk_un e]; exact a2 u (by omega)
      · have : u = 0 := by omega
        subst this
        rw [pg_si_at]
        show upd _ 0 0 0 = _
        rw [pk_us]
        rfl
    · rintro i x hi ⟨x1, x2, x4, x3⟩ ih
      have c8 : ¬ nI m ≤ nI i := nI_ge hi (by omega)
      obtain ⟨c, c1, c2, c3⟩ := sp_rk_kth (W := W) (i := i) (b := L 4 0) (by omega)
      refine sX4_plan_61 hF.x4 ?_ ?_ <;> simp only [x1]
      · exact fun c => absurd c c8
      intro _
      refine pg_loop (fun t (x : pg_M) => pg_At S Λ YX4_plan (d + 4) 72 [(0, .ref 164), (1, .ref l), (2, .ref 3), (3, .int (nI i)), (4, .int (nI t))] [] x _) (fun k x => x.1 164 4 = nI m ∧ (∀ c, c < L 4 0 → W.testBit c = true → x.1 165 (sp_rk W c) = nI c) ∧ (∀ c t, c < L 4 0 → t < m → W.testBit c = true → (sp_rk W c < i ∨ (sp_rk W c = i ∧ t < k)) → x.1 166 (6 * sp_rk W c + t) = nI (D c t)) ∧ pg_fr [164, 165, 166, 167, 168, l + 14] M x) m ?_ ?_ 0 x (Nat.zero_le _) ⟨x1, x2, fun c t a b e z => x4 c t a b e (by omega), x3⟩
      · rintro x ⟨y1, y2, y4, y3⟩
        have c7 : nI m ≤ nI m := nI_le (Nat.le_refl _) (by omega)
        refine sX4_plan_72 (Q0 := fun _ _ => True) hF.x4 hF.now ?_ ?_ ?_ ?_ ?_ <;> simp only [y1]
        · intro _; rw [nI_1]; exact ih x ⟨y1, y2, fun c t a b e z => y4 c t a b e (by omega), y3⟩
        all_goals exact fun c => absurd c7 c
      · rintro t x ht ⟨y1, y2, y4, y3⟩ ih2
        obtain ⟨sx, lx⟩ := keepS y3
        have c7 : ¬ nI m ≤ nI t := nI_ge ht (by omega)
        have e165 : x.1 165 (nI i).toNatClampNeg = nI c := by rw [nI_clamp (by omega), ← c3]; exact y2 c c1 c2
        have hix : nI i * 6 + nI t = nI (6 * i + t) := by rw [show (6 : Int32) = nI 6 from rfl, pk_mul, nI_add, Nat.mul_comm]
        refine sX4_plan_72 (Q0 := fun v M' => v = nI (D c t) ∧ pg_fr [l + 14] x M') hF.x4 hF.now ?_ ?_ ?_ ?_ ?_ <;> simp only [y1]
        · exact fun c => absurd c c7
        · intro _; exact vp_in_nI (by omega) (by decide)
        · intro _; rw [e165, sx.2.1]; exact hDat c1 (by omega) lx
        · rintro _ v M1 _; rw [hix]; exact vp_in_nI (by omega) (by decide)
        · rintro _ v M1 ⟨rfl, f1⟩
          rw [hix, nI_clamp (by omega), nI_1]
          refine ih2 _ ⟨by rw [pg_si_ne (by decide), f1.1 164 (by simp; omega)]; exact y1, fun c a b => by rw [pg_si_ne (by decide), f1.1 165 (by simp; omega)]; exact y2 c a b, fun c' t' a b e z => ?_, (y3.trans (f1.mono (fun b hb => by simp at hb ⊢; omega))).trans (pg_fr.si (by simp))⟩
          rw [pg_si_at]
          by_cases e2 : 6 * sp_rk W c' + t' = 6 * i + t
          · have : sp_rk W c' = i ∧ t' = t := by omega
            have hcc : c' = c := sp_rk_inj e c2 (by omega)
            subst hcc
            rw [e2, pk_us, this.2]
          · rw [pk_un e2, f1.1 166 (by simp; omega)]
            exact y4 c' t' a b e (by omega)
  · rintro i x hi ⟨x1, x2, x3⟩ ih
    obtain ⟨sx, lx⟩ := keepS x3
    have c9 : ¬ nI (L 4 0) ≤ nI i := nI_ge hi (by omega)
    have hcs := sx.2.2.1 i (by omega)
    have o3 := ho.2.2.1 i
    have h28 := sp_lt8 (c := i) ho
    have hcl : (nI i).toNatClampNeg = i := nI_clamp (by omega)
    have e6 : x.1 (3 + 3) (nI i).toNatClampNeg = nI (s 2 i) := by rw [hcl]; exact hcs.2.2
    have e5 : x.1 (3 + 2) (nI i).toNatClampNeg = nI (s 1 i) := by rw [hcl]; exact hcs.2.1
    have z6 : nI (s 2 i) = 0 ↔ s 2 i = 0 := by rw [← nI_0, nI_eq (by omega) (by omega)]
    have z5 : nI (s 1 i) ≤ 0 ↔ ¬ 0 < s 1 i := by rw [show (0 : Int32) = nI 0 from rfl, nI_leI (by omega) (by omega)]; omega
    have rl : sp_rk W i ≤ i := fb_ct_le _ _
    have skip : W.testBit i = false → pg_At S Λ YX4_plan (d + 4) 7 [(0, .ref 164), (1, .ref l), (2, .ref 3), (3, .int (nI i + 1))] [] x (fun q M' => q = none ∧ (M'.1 164 4 = nI m ∧ M'.1 164 5 = (if 99 < T then -1 else nI T) ∧ (∀ k x, (sp_dg D (L 4 0) T m W 0)[k]? = some x → M'.1 168 k = nI x) ∧ pg_fr [164, 165, 166, 167, 168, l + 14] M M')) := fun q => by
      rw [nI_1]
      refine ih x ⟨?_, fun c hc hw => x2 c ?_ hw, x3⟩
      · rw [x1]; congr 1; show _ = fb_ct _ (i + 1); rw [fb_ct_succ, q]; rfl
      · have : c ≠ i := fun e => by subst e; rw [hw] at q; cases q
        omega
    refine sX4_plan_7 hL hF.now hF.x4 ?_ ?_ ?_ ?_ ?_ ?_ <;> simp only [lx.1, e6, e5, z6, z5]
    · exact fun c => absurd c c9
    · intro _; exact vp_in_nI (by omega) (by decide)
    · intro _ q; exact skip (by rw [hWb]; simp [q])
    · intro _ _ q; exact skip (by rw [hWb]; simp [q])
    · intro _ _ _; rw [x1]; exact vp_in_nI (by omega) (by decide)
    · intro _ q1 q2 N1 hN1
      have q2' : 0 < s 1 i := Nat.lt_of_not_le (fun z => q2 (by omega))
      have hwi : W.testBit i = true := by rw [hWb]; simp [q1, q2', hi]
      rw [pg_si_ne (by decide), x1, nI_clamp (by omega), nI_1] at hN1
      rw [nI_1]
      refine ih N1 ⟨?_, fun c hc hw => ?_, by rw [hN1]; exact (x3.trans (pg_fr.si (by simp))).trans (pg_fr.si (by simp))⟩
      · rw [hN1, pg_si_at, pk_us]; congr 1; show _ = fb_ct _ (i + 1); rw [fb_ct_succ, hwi]; rfl
      · rw [hN1, pg_si_ne (by decide), pg_si_at]
        by_cases e : c = i
        · subst e; rw [pk_us]
        · have := sp_rk_lt hw (show c < i by omega)
          rw [pk_un (by omega)]; exact x2 c (by omega) hw
theorem rc_dry {w : Int32} (hh : h < 2 ^ 29) (hF : pg_full Λ) (hg : rc_G M G) (hk : sp_okG G h) : pg_Ev S Λ YX10_dry (d + 5) [.ref 0, .int w] M (fun r M' => ∃ v, r = some (.int v) ∧ (v = sp_qdry G w ∧ rc_G M' G ∧ rc_out M M')) := by
  have hL := hg.d.x5 hF
  have gdl := hg.d.l
  have hpc := sp_pc_6 (sp_wsh_lt (s := G.s) hk.l)
  have hp := rc_laundry (S := S) (d := d) hh (by omega) hF hL hg.s hg.l hk.l hk.s.1
  have hq0 : sp_ix (sp_pc (sp_wsh G.L G.s) + 1) w = none → sp_qdry G w = -1 := fun q => by unfold sp_qdry; rw [q]
  have hq1 : ∀ j, sp_ix (sp_pc (sp_wsh G.L G.s) + 1) w = some j → sp_qdry G w = if 99 < sp_drT G.L G.E G.s then -1 else if j = 0 then nI (sp_drT G.L G.E G.s) else nI ((sp_drR G.L G.E G.s).getD (j - 1) 0) := fun j q => by unfold sp_qdry; rw [q]
  have hRl : (sp_drR G.L G.E G.s).length = sp_pc (sp_wsh G.L G.s) := sp_dg_len _ _ _
  generalize sp_drT G.L G.E G.s = T at hp hq1
  generalize sp_drR G.L G.E G.s = R at hp hq1 hRl
  generalize sp_pc (sp_wsh G.L G.s) = n at hpc hp hq0 hq1 hRl
  have fin : ∀ {N : pg_M} {v : Int32}, pg_fr [164, 165, 166, 167, 168, M.2.2 0 8 + 14] M N → v = sp_qdry G w → ∃ u, some (Value.int v) = some (Value.int u) ∧ (u = sp_qdry G w ∧ rc_G N G ∧ rc_out M N) := fun {N v} f e => by
    have p : pg_pf rc_q M N := pg_pf.of f (fun b hb => by simp at hb; unfold rc_q; omega)
    exact ⟨v, rfl, e, hg.q p, rc_out.q p⟩
  have hT : ∀ {x : Int32}, x = (if 99 < T then -1 else nI T) → ¬ x = -1 → ¬ 99 < T := fun e q z => by rw [e, if_pos z] at q; exact q rfl
  refine oX10_dry (sX10_dry_0 (Q0 := fun M' => M'.1 164 4 = nI n ∧ M'.1 164 5 = (if 99 < T then -1 else nI T) ∧ (∀ k x, R[k]? = some x → M'.1 168 k = nI x) ∧ pg_fr [164, 165, 166, 167, 168, M.2.2 0 8 + 14] M M') hF.x10 hF.x4 hp ?_ ?_ ?_ ?_ ?_ ?_)
  · rintro M1 ⟨a1, a2, a3, a4⟩ q q1 q2
    refine fin a4 (hq0 ?_).symm
    rw [sp_ix_none (by omega)]
    rintro k hk1 rfl
    rw [show (1 : Int32) = nI 1 from rfl, nI_ltI (by omega) (by omega)] at q2
    exact q1 (by rw [show k = 0 by omega]; rfl)
  · rintro M1 ⟨a1, a2, a3, a4⟩ q q1 q2 q3
    refine fin a4 (hq0 ?_).symm
    rw [sp_ix_none (by omega)]
    rintro k hk1 rfl
    rw [a1, nI_ltI (by omega) (by omega)] at q3; omega
  · rintro M1 ⟨a1, a2, a3, a4⟩ q q1 q2 q3
    have a0 : ¬ w < 0 := fun z => q2 (by rw [fa_lt] at z ⊢; have e0 : (0 : Int32).toInt = 0 := rfl; have e1 : (1 : Int32).toInt = 1 := rfl; omega)
    obtain ⟨k, hk1, rfl⟩ := nI_of a0
    rw [a1, nI_ltI (by omega) (by omega)] at q3
    rw [show (1 : Int32) = nI 1 from rfl, nI_ltI (by omega) (by omega)] at q2
    rw [show k = (k - 1) + 1 by omega, nI_pred]
    exact vp_in_nI (by omega) (by decide)
  · rintro M1 ⟨a1, a2, a3, a4⟩ q q1 q2 q3
    have a0 : ¬ w < 0 := fun z => q2 (by rw [fa_lt] at z ⊢; have e0 : (0 : Int32).toInt = 0 := rfl; have e1 : (1 : Int32).toInt = 1 := rfl; omega)
    obtain ⟨k, hk1, rfl⟩ := nI_of a0
    rw [a1, nI_ltI (by omega) (by omega)] at q3
    rw [show (1 : Int32) = nI 1 from rfl, nI_ltI (by omega) (by omega)] at q2
    have hget : R[k - 1]? = some (R.getD (k - 1) 0) := by rw [List.getElem?_eq_getElem (by omega)]; simp [show k - 1 < R.length by omega]
    have ej : (nI k - 1).toNatClampNeg = k - 1 := by
      rw [show nI k - 1 = nI (k - 1) by rw [show k = (k - 1) + 1 by omega, nI_pred]; simp]
      exact nI_clamp (by omega)
    refine fin a4 ?_
    rw [hq1 k (sp_ix_nI (by omega) (by omega)), if_neg (hT a2 q), if_neg (by omega), ej]
    exact a3 _ _ hget
  · rintro M1 ⟨a1, a2, a3, a4⟩ q q1
    refine fin a4 ?_
    have hz : sp_ix (n + 1) w = some 0 := by rw [q1]; exact sp_ix_nI (n := n + 1) (c := 0) (by omega) (by omega)
    rw [hq1 0 hz, if_neg (hT a2 q), if_pos rfl, a2, if_neg (hT a2 q)]
  · rintro M1 ⟨a1, a2, a3, a4⟩ q
    refine fin a4 ?_
    cases hi : sp_ix (n + 1) w with
    | none => exact (hq0 hi).symm
    | some j =>
      rw [hq1 j hi]
      by_cases z : 99 < T
      · rw [if_pos z]
      · rw [a2, if_neg z] at q
        exact absurd q (fun e => by have e3 := nI_pos (n := T) (by omega); rw [e] at e3; exact e3 (by decide))
end PGR
