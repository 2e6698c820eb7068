/-! fill: the reference -/
section PGR
variable {S : pg_S} {Λ : pg_L} {d h : Nat} {M : pg_M} {G : sp_G} {L s : sp_N} {E : sp_E}
theorem rm_findHardest {n : Nat} (hn : n ≤ 6) (hh : h < 2 ^ 29) (hR : pg_isX11 Λ) (hs : rm_S M 0 s) (hl : rm_L M L E) (hk : sp_okL L E) (ho : sp_okS L s h) : pg_Ev S Λ YX11_findHardest (d + 3) [.ref 207, .int (nI n)] M (fun r M' => r = none ∧ ((∀ c, c < L 4 0 → M'.1 223 c = nI (sp_hard L E s c n)) ∧ pg_fr [219, 220, 223] M M')) := by
  have h6 := hk.1
  have h41 := ho.2.1
  refine oX11_findHardest (sX11_findHardest_0 ?_)
  refine pg_loop (fun i (mq : pg_M) => pg_At S Λ YX11_findHardest (d + 3) 2 [(0, .ref 207), (1, .int (nI n)), (2, .int (nI i))] [] mq _) (fun i mq => (∀ c, c < i → mq.1 223 c = nI (sp_hard L E s c n)) ∧ pg_fr [219, 220, 223] M mq) (L 4 0) ?_ ?_ 0 M (Nat.zero_le _) ⟨fun c hc => by omega, pg_fr.rfl'⟩
  · rintro mq ⟨m1, m2⟩
    have hlm : rm_L mq L E := hl.keep m2 (by simp) (by simp) (by simp)
    have c9 : nI (L 4 0) ≤ nI (L 4 0) := nI_le (Nat.le_refl _) (by omega)
    refine sX11_findHardest_2 (Q0 := fun v M' => v = nI (L 4 0) ∧ M' = mq) hR (pg_Ev.mono (by omega) (rm_cloths (d := 0) hR hlm)) ?_ ?_ ?_ ?_
    · rintro v Mq1 ⟨rfl, rfl⟩ _; exact ⟨rfl, m1, m2⟩
    all_goals (rintro v Mq1 ⟨rfl, rfl⟩ c; exact absurd c9 c)
  · rintro i mq hi ⟨m1, m2⟩ ih
    have hlm : rm_L mq L E := hl.keep m2 (by simp) (by simp) (by simp)
    have hsm : rm_S mq 0 s := hs.keep m2 (by simp)
    have c9 : ¬ nI (L 4 0) ≤ nI i := nI_ge hi (by omega)
    have h2i : (2 : Int32) + nI i = nI (2 + i) := by rw [show (2 : Int32) = nI 2 from rfl, nI_add]
    have hcl : (nI i).toNatClampNeg = i := nI_clamp (by omega)
    have w9 := (ho.2.2.1 i).1
    have hw0 : (pg_si mq 223 (nI i).toNatClampNeg 0).1 221 ((2 : Int32) + nI i).toNatClampNeg = nI (sp_wk L E s i 0) := by
      rw [pg_si_ne (by decide), h2i, nI_clamp (by omega)]
      have := (hsm.2.2.1 i (by omega)).1
      rw [show 0 + 2 + i = 2 + i by omega] at this
      exact this
    refine sX11_findHardest_2 (Q0 := fun v M' => v = nI (L 4 0) ∧ M' = mq) hR (pg_Ev.mono (by omega) (rm_cloths (d := 0) hR hlm)) ?_ ?_ ?_ ?_
    · rintro v Mq1 ⟨rfl, rfl⟩ c; exact absurd c c9
    · rintro v Mq1 ⟨rfl, rfl⟩ _; exact vp_in_nI (by omega) (by decide)
    · rintro v Mq1 ⟨rfl, rfl⟩ _; rw [h2i]; exact vp_in_nI (by omega) (by decide)
    · rintro v Mq1 ⟨rfl, rfl⟩ _
      rw [hw0, hcl]
      refine pg_loop (fun k (mq : pg_M) => pg_At S Λ YX11_findHardest (d + 3) 29 [(0, .ref 207), (1, .int (nI n)), (2, .int (nI i)), (3, .int (nI (sp_wk L E s i k))), (4, .int (nI k))] [] mq _) (fun k mq => mq.1 223 i = nI (sp_hard L E s i k) ∧ (∀ c, c < i → mq.1 223 c = nI (sp_hard L E s c n)) ∧ pg_fr [219, 220, 223] M mq) n ?_ ?_ 0 _ (Nat.zero_le _) ⟨by rw [pg_si_at, pk_us]; rfl, fun c hc => by rw [pg_si_at, pk_un (by omega)]; exact m1 c hc, m2.trans (pg_fr.si (by simp))⟩
      · rintro mq ⟨a1, a2, a3⟩
        have c8 : nI n ≤ nI n := nI_le (Nat.le_refl _) (by omega)
        refine sX11_findHardest_29 (Q0 := fun _ _ => True) (Q1 := fun _ _ => True) (Q2 := fun _ _ => True) (Q3 := fun _ _ => True) hR (fun _ => ?_) (fun c => absurd c8 c) (fun c => absurd c8 c) (fun c => absurd c8 c) (fun c => absurd c8 c) (fun c => absurd c8 c) (fun c => absurd c8 c) (fun c => absurd c8 c)
        rw [nI_1]
        refine ih mq ⟨fun c hc => ?_, a3⟩
        by_cases e : c = i
        · subst e; exact a1
        · exact a2 c (by omega)
      · rintro k mq hk1 ⟨a1, a2, a3⟩ ih2
        have c8 : ¬ nI n ≤ nI k := nI_ge hk1 (by omega)
        have hl2 : rm_L mq L E := hl.keep a3 (by simp) (by simp) (by simp)
        have hs2 : rm_S mq 0 s := hs.keep a3 (by simp)
        have wk9 := sp_wk_le (L := L) (E := E) (s := s) (c := i) w9 k
        have hd9 := sp_hard_le (L := L) (E := E) (s := s) (c := i) k
        have pl := sp_pull_le (L := L) (E := E) (c := i) (wet := sp_wk L E s i k) (wind := sp_wind L (s 4 1 + k))
        have r223 : ∀ {N : pg_M}, pg_fr [219, 220] mq N → N.1 223 (nI i).toNatClampNeg = nI (sp_hard L E s i k) := fun f => by rw [hcl, f.1 223 (by simp)]; exact a1
        have next : ∀ {N N' : pg_M} {v : Int32}, pg_fr [219, 220] mq N → pg_fr [219, 220] (pg_si N 223 i v) N' → v = nI (sp_hard L E s i (k + 1)) → pg_At S Λ YX11_findHardest (d + 3) 29 [(0, .ref 207), (1, .int (nI n)), (2, .int (nI i)), (3, .int (nI (sp_wk L E s i (k + 1)))), (4, .int (nI k + 1))] [] N' (fun r M' => r = none ∧ ((∀ c, c < L 4 0 → M'.1 223 c = nI (sp_hard L E s c n)) ∧ pg_fr [219, 220, 223] M M')) := fun {N N' v} f1 f2 e => by
          rw [nI_1]
          refine ih2 N' ⟨by rw [f2.1 223 (by simp), pg_si_at, pk_us, e], fun c hc => by rw [f2.1 223 (by simp), pg_si_at, pk_un (by omega), f1.1 223 (by simp)]; exact a2 c hc, ((a3.trans (f1.mono (fun b hb => by simp at hb ⊢; omega))).trans (pg_fr.si (by simp))).trans (f2.mono (fun b hb => by simp at hb ⊢; omega))⟩
        have dr : ∀ {N : pg_M} {v : Int32}, pg_fr [219, 220] mq N → pg_Ev S Λ YX11_driedOf (d + 2) [.ref 207, .int (nI i), .int (nI (sp_wk L E s i k)), .int (nI (sp_wind L (s 4 1 + k)))] (pg_si N 223 i v) (fun r M' => ∃ x, r = some (.int x) ∧ (x = nI (sp_wk L E s i (k + 1)) ∧ pg_fr [219, 220] (pg_si N 223 i v) M')) := fun {N v} f => rm_driedOf hi (by omega) hR ((hl2.ev f).keep (pg_fr.si (X := [223]) (by simp)) (by simp) (by simp) (by simp)) hk
        refine sX11_findHardest_29 (Q0 := fun v M' => v = nI (sp_wind L (s 4 1 + k)) ∧ M' = mq) (Q1 := fun v M' => v = nI (sp_pull L E i (sp_wk L E s i k) (sp_wind L (s 4 1 + k))) ∧ pg_fr [219, 220] mq M') (Q2 := fun v M' => v = nI (sp_wk L E s i (k + 1)) ∧ ∃ N, pg_fr [219, 220] mq N ∧ pg_fr [219, 220] (pg_si N 223 i (nI (sp_hard L E s i k))) M') (Q3 := fun v M' => v = nI (sp_wk L E s i (k + 1)) ∧ ∃ N, pg_fr [219, 220] mq N ∧ pg_fr [219, 220] (pg_si N 223 i (nI (sp_pull L E i (sp_wk L E s i k) (sp_wind L (s 4 1 + k))))) M') hR (fun c => absurd c c8) ?_ ?_ ?_ ?_ ?_ ?_ ?_
        · intro _
          rw [show mq.1 221 (0 : Int32).toNatClampNeg = nI (s 4 1) from hs2.1, nI_add]
          have := rm_windOf (S := S) (Λ := Λ) (d := d + 2) false (show s 4 1 + k < 2 ^ 31 by omega) hR hl2 hk
          exact this
        · rintro _ v Mq2 ⟨rfl, rfl⟩; exact rm_pullOf hi hR hl2 hk
        · rintro _ v Mq2 _ v2 Mq3 _; exact vp_in_nI (by omega) (by decide)
        · rintro _ v Mq2 ⟨rfl, rfl⟩ v2 Mq3 ⟨rfl, f3⟩ _
          rw [r223 f3, hcl]
          refine pg_Ev.imp ?_ (dr f3)
          rintro r Mq4 ⟨x, e1, e2, e3⟩
          exact ⟨x, e1, e2, Mq3, f3, e3⟩
        · rintro _ v Mq2 ⟨rfl, rfl⟩ v2 Mq3 ⟨rfl, f3⟩ q v3 Mq4 ⟨rfl, N, f4, f5⟩
          rw [r223 f3, nI_leI (by omega) (by omega)] at q
          exact next f4 f5 (by simp only [sp_hard]; rw [Nat.max_eq_left q])
        · rintro _ v Mq2 ⟨rfl, rfl⟩ v2 Mq3 ⟨rfl, f3⟩ _
          rw [hcl]
          refine pg_Ev.imp ?_ (dr f3)
          rintro r Mq4 ⟨x, e1, e2, e3⟩
          exact ⟨x, e1, e2, Mq3, f3, e3⟩
        · rintro _ v Mq2 ⟨rfl, rfl⟩ v2 Mq3 ⟨rfl, f3⟩ q v3 Mq4 ⟨rfl, N, f4, f5⟩
          rw [r223 f3, nI_leI (by omega) (by omega)] at q
          exact next f4 f5 (by simp only [sp_hard]; rw [Nat.max_eq_right (by omega)])
theorem rm_fill {x y : Int32} (hh : h < 2 ^ 29) (hR : pg_isX11 Λ) (hg : rm_G M G) (hk : sp_okG G h) : pg_Ev S Λ YX11_fill (d + 12) [.ref 207, .int x, .int y] M (fun r M' => ∃ v, r = some (.int v) ∧ (v = sp_qfill G x y ∧ rm_G M' G ∧ pg_fr rm_X M M')) := by
  have hg0 := hg.th
  have h6 := hk.l.1
  have h8 := hk.s.1.1
  have y60 := hk.l.2.2.1
  have wx : (¬ x < 1 ∧ ¬ (6 : Int32) < x) ↔ (∃ n, n < 7 ∧ 0 < n ∧ x = nI n) := by
    constructor
    · rintro ⟨a, b⟩
      have a0 : ¬ x < 0 := fun q => a (by rw [fa_lt] at q ⊢; have e0 : (0 : Int32).toInt = 0 := rfl; have e1 : (1 : Int32).toInt = 1 := rfl; omega)
      obtain ⟨k, hk1, rfl⟩ := nI_of a0
      rw [show (1 : Int32) = nI 1 from rfl, nI_ltI (by omega) (by omega)] at a
      rw [show (6 : Int32) = nI 6 from rfl, nI_ltI (by omega) (by omega)] at b
      exact ⟨k, by omega, by omega, rfl⟩
    · rintro ⟨n, a, b, rfl⟩
      rw [show (1 : Int32) = nI 1 from rfl, nI_ltI (by omega) (by omega), show (6 : Int32) = nI 6 from rfl, nI_ltI (by omega) (by omega)]
      omega
  have no : (¬ ∃ n, n < 7 ∧ 0 < n ∧ x = nI n) → sp_qfill G x y = -2 := fun q => by
    unfold sp_qfill
    cases hi : sp_ix 7 x with
    | none => rfl
    | some n =>
      obtain ⟨a, e⟩ := (sp_ix_some (by decide)).mp hi
      have : n = 0 := Nat.eq_zero_of_not_pos (fun z => q ⟨n, a, z, e⟩)
      simp [this]
  have hqT : ∀ n, 0 < n → n < 7 → x = nI n → y = -1 → sp_qfill G x y = nI (sp_flT G.L G.E G.s n) := fun n a b e e2 => by unfold sp_qfill; rw [e, sp_ix_nI (by decide) b]; simp only; rw [if_neg (Nat.ne_of_gt a), if_pos e2]
  have hqR : ∀ n c, 0 < n → n < 7 → x = nI n → ¬ y = -1 → c < G.L 4 0 → y = nI c → sp_qfill G x y = nI ((sp_flR G.L G.E G.s n).getD c 0) := fun n c a b e e2 hc e3 => by unfold sp_qfill; rw [e, sp_ix_nI (by decide) b]; simp only; rw [if_neg (Nat.ne_of_gt a), if_neg e2, e3, sp_ix_nI (by omega) hc]
  have hqN : ∀ n, 0 < n → n < 7 → x = nI n → ¬ y = -1 → sp_ix (G.L 4 0) y = none → sp_qfill G x y = -2 := fun n a b e e2 e3 => by unfold sp_qfill; rw [e, sp_ix_nI (by decide) b]; simp only; rw [if_neg (Nat.ne_of_gt a), if_neg e2, e3]
  -- behind the hardest
  have main : ∀ n, 0 < n → n < 7 → x = nI n → (y = -1 ∨ ∃ c, c < G.L 4 0 ∧ y = nI c ∧ ¬ y = -1) → ∀ mq : pg_M, (∀ c, c < G.L 4 0 → mq.1 223 c = nI (sp_hard G.L G.E G.s c n)) → pg_fr [219, 220, 223] (pg_si M 207 0 0) mq → pg_At S Λ YX11_fill (d + 12) 55 [(0, .ref 207), (2, .int y), (3, .int 0), (4, .int 0)] [] (pg_si mq 207 29 (((1 : Int32) <<< ((mq.1 221 (1 : Int32).toNatClampNeg) &&& 31)) - 1)) (fun r M' => ∃ v, r = some (.int v) ∧ (v = sp_qfill G x y ∧ rm_G M' G ∧ pg_fr rm_X M M')) := by
    intro n n0 n7 ex ey mq m1 m2
    have gm : rm_G mq G := hg0.same (rm_same.fr m2 (fun b hb => by simp at hb ⊢; omega))
    have e29 : ((1 : Int32) <<< ((mq.1 221 (1 : Int32).toNatClampNeg) &&& 31)) - 1 = nI (2 ^ G.s 4 0 - 1) := by
      rw [show mq.1 221 (1 : Int32).toNatClampNeg = nI (G.s 4 0) from gm.s.2.1, nb_pow (by omega)]
      have : 0 < 2 ^ G.s 4 0 := Nat.pow_pos (by decide)
      rw [show 2 ^ G.s 4 0 = (2 ^ G.s 4 0 - 1) + 1 by omega, nI_pred]; simp
    rw [e29]
    have f2 : pg_fr [207, 219, 220, 223] (pg_si M 207 0 0) (pg_si mq 207 29 (nI (2 ^ G.s 4 0 - 1))) := (m2.mono (fun b hb => by simp at hb ⊢; omega)).trans (pg_fr.si (by simp))
    have gm2 : rm_G (pg_si mq 207 29 (nI (2 ^ G.s 4 0 - 1))) G := gm.same (rm_same.f (by simp))
    generalize hm2 : pg_si mq 207 29 (nI (2 ^ G.s 4 0 - 1)) = mq' at f2 gm2
    have k29 : mq'.1 207 29 = nI (2 ^ G.s 4 0 - 1) := by rw [← hm2, pg_si_at, pk_us]
    have k223 : ∀ c, c < G.L 4 0 → mq'.1 223 c = nI (sp_hard G.L G.E G.s c n) := fun c hc => by rw [← hm2, pg_si_ne (by decide)]; exact m1 c hc
    have h1c : mq'.1 221 (1 : Int32).toNatClampNeg = nI (G.s 4 0) := gm2.s.2.1
    refine pg_loop (fun p (v : Int32) => pg_At S Λ YX11_fill (d + 12) 55 [(0, .ref 207), (2, .int y), (3, .int v), (4, .int (nI p))] [] mq' _) (fun p v => v = nI (sp_mk (fun p => decide (0 < G.s 3 p)) p)) (G.s 4 0) ?_ ?_ 0 0 (Nat.zero_le _) rfl
    · rintro v rfl
      have c9 : nI (G.s 4 0) ≤ nI (G.s 4 0) := nI_le (Nat.le_refl _) (by omega)
      have hfl := rm_fills (S := S) (Λ := Λ) (d := d) (h := h) (hrs := n) hR hk.l hk.s.1 (G.L 4 0) 0 (sp_sound G.s) (G.L 4 1) 0 0 (pg_si mq' 207 28 (-1)) (by omega) (sp_sub_0.mpr (fun _ q => q)) y60 (by omega) (by omega) (gm2.l.keep (pg_fr.si (X := [207]) (by simp)) (by simp) (by simp) (by simp)) (gm2.s.keep (pg_fr.si (X := [207]) (by simp)) (by simp)) (by rw [pg_si_at, pk_us]; rfl) (by rw [pg_si_at, pk_un (by decide)]; exact k29) (fun c hc => by rw [pg_si_ne (by decide)]; exact k223 c hc)
      rw [show sp_fb (sp_fch G.L G.E G.s n) (G.L 1) (G.L 3) (G.L 4 0) 0 (sp_sound G.s) (G.L 4 1) = sp_flT G.L G.E G.s n from rfl, show sp_fr (sp_fch G.L G.E G.s n) (G.L 1) (G.L 3) (G.L 4 0) 0 (sp_sound G.s) (G.L 4 1) = sp_flR G.L G.E G.s n from rfl] at hfl
      have hRl : (sp_flR G.L G.E G.s n).length = G.L 4 0 := sp_fr_len _ _ _ _
      have hqT' := hqT n n0 n7 ex
      have hqR' := fun c => hqR n c n0 n7 ex
      generalize sp_flT G.L G.E G.s n = T at hfl hqT'
      generalize sp_flR G.L G.E G.s n = R at hfl hqR' hRl
      have fin : ∀ {N : pg_M}, rm_ff 0 (pg_si mq' 207 28 (-1)) N → rm_G N G ∧ pg_fr rm_X M N := fun {N} q => by
        have a1 : pg_fr [207, 219, 220, 223, 224, 225] (pg_si M 207 0 0) N := (f2.mono (fun b hb => by simp at hb ⊢; omega)).trans ((pg_fr.si (by simp)).trans (q.1.mono (fun b hb => by simp at hb ⊢; omega)))
        refine ⟨hg0.same ⟨fun b z => a1.1 b (by simp at z ⊢; omega), fun b z => a1.2.1 b (by simp at z ⊢; omega), fun j z => ?_, fun j _ => by rw [a1.1 221 (by simp)]⟩, rm_X.th.trans (rm_X.of a1 (fun x hx => by simp at hx; omega))⟩
        rw [q.2.1 j (by simp at z; omega), pg_si_at, pk_un (by simp at z; omega), ← hm2, pg_si_at, pk_un (by simp at z; omega), m2.1 207 (by simp)]
      refine sX11_fill_55 (Q0 := fun M' => M'.1 207 28 = sp_k1 (max 0 (0 + T + 1)) ∧ (0 < 0 + T + 1 → rm_row5 M' 0 ((pg_si mq' 207 28 (-1)).1 224) R) ∧ (¬ 0 < 0 + T + 1 → M'.1 225 = (pg_si mq' 207 28 (-1)).1 225) ∧ rm_ff 0 (pg_si mq' 207 28 (-1)) M') hR ?_ ?_ ?_ ?_ ?_ ?_ ?_ <;> simp only [h1c]
      · intro _
        rw [show (pg_si mq' 207 28 (-1)).1 213 (3 : Int32).toNatClampNeg = nI (G.L 4 1) by rw [pg_si_ne (by decide)]; exact gm2.l.2.2.2.1]
        exact pg_Ev.mono (by omega) hfl
      · intro _ Mq1 _ q
        rcases ey with e | ⟨c, hc, e, _⟩
        · rw [e] at q; exact absurd q (by decide)
        · rw [e]; exact vp_in_nI (by omega) (by decide)
      · rintro _ Mq1 ⟨b1, b2, b3, b4⟩ q
        rcases ey with e | ⟨c, hc, e, e2⟩
        · rw [e] at q; exact absurd q (by decide)
        · obtain ⟨g1, g2⟩ := fin b4
          have hget : R[c]? = some (R.getD c 0) := by rw [List.getElem?_eq_getElem (by omega)]; simp [show c < R.length by omega]
          have hrow := (b2 (by omega)).2 c _ hget
          rw [Nat.zero_add] at hrow
          refine ⟨_, rfl, ?_, g1, g2⟩
          rw [hqR' c e2 hc e, e, nI_clamp (by omega)]
          exact hrow
      · rintro _ Mq1 ⟨b1, b2, b3, b4⟩ q
        rcases ey with e | ⟨c, hc, e, e2⟩
        · obtain ⟨g1, g2⟩ := fin b4
          refine ⟨_, rfl, ?_, g1, g2⟩
          rw [hqT' e, b1, Nat.zero_add, Nat.zero_max]
          unfold sp_k1
          rw [if_neg (by omega)]; rfl
        · rw [e] at q; exact absurd (nI_pos' (by omega)) q
      all_goals exact fun c => absurd c9 c
    · rintro p v hp rfl ih
      have c9 : ¬ nI (G.s 4 0) ≤ nI p := nI_ge hp (by omega)
      have h20 : (20 : Int32) + nI p = nI (20 + p) := by rw [show (20 : Int32) = nI 20 from rfl, nI_add]
      have g9 := hk.s.1.2.2.2.1 p
      have hgp : mq'.1 221 ((20 : Int32) + nI p).toNatClampNeg = nI (G.s 3 p) := by
        rw [h20, nI_clamp (by omega)]
        have := gm2.s.2.2.2 p (by omega)
        rw [show 0 + 20 + p = 20 + p by omega] at this
        exact this
      refine sX11_fill_55 (Q0 := fun _ => True) hR ?_ ?_ ?_ ?_ ?_ ?_ ?_ <;> simp only [h1c, hgp]
      · exact fun c => absurd c c9
      · exact fun c => absurd c c9
      · exact fun c => absurd c c9
      · exact fun c => absurd c c9
      · intro _; rw [h20]; exact vp_in_nI (by omega) (by decide)
      · intro _ q
        rw [show (0 : Int32) = nI 0 from rfl, nI_leI (by omega) (by omega)] at q
        rw [nI_1, show (0 : Int32) = nI 0 from rfl, fa_or, Nat.or_zero]
        refine ih _ (congrArg nI (a₂ := sp_mk (fun p => decide (0 < G.s 3 p)) (p + 1)) ?_)
        simp [sp_mk, show ¬ 0 < G.s 3 p by omega]
      · intro _ q
        rw [show (0 : Int32) = nI 0 from rfl, nI_leI (by omega) (by omega)] at q
        rw [nI_1, nb_set (by omega)]
        refine ih _ (congrArg nI (a₂ := sp_mk (fun p => decide (0 < G.s 3 p)) (p + 1)) ?_)
        simp [sp_mk, show 0 < G.s 3 p by omega]
  have hfh : ∀ n, 0 < n → n < 7 → x = nI n → pg_Ev S Λ YX11_findHardest (d + 11) [.ref 207, .int x] (pg_si M 207 0 0) (fun r M' => r = none ∧ ((∀ c, c < G.L 4 0 → M'.1 223 c = nI (sp_hard G.L G.E G.s c n)) ∧ pg_fr [219, 220, 223] (pg_si M 207 0 0) M')) := fun n a b e => by rw [e]; exact pg_Ev.mono (by omega) (rm_findHardest (d := 0) (by omega) hh hR hg0.s hg0.l hk.l hk.s.1)
  refine oX11_fill (sX11_fill_0 (Q0 := fun v M' => v = b2i (decide (¬ x < 1 ∧ ¬ (6 : Int32) < x)) ∧ M' = pg_si M 207 0 0) (Q1 := fun M' => (∀ n, 0 < n → n < 7 → x = nI n → ∀ c, c < G.L 4 0 → M'.1 223 c = nI (sp_hard G.L G.E G.s c n)) ∧ pg_fr [219, 220, 223] (pg_si M 207 0 0) M') (Q2 := fun v M' => v = b2i (sp_ix (G.L 4 0) y).isSome ∧ M' = pg_si M 207 0 0) (Q3 := fun M' => (∀ n, 0 < n → n < 7 → x = nI n → ∀ c, c < G.L 4 0 → M'.1 223 c = nI (sp_hard G.L G.E G.s c n)) ∧ pg_fr [219, 220, 223] (pg_si M 207 0 0) M') hR rm_within ?_ ?_ ?_ ?_ ?_ ?_ ?_)
  · rintro v Mq1 ⟨rfl, rfl⟩ q
    rw [b2i_0, decide_eq_false_iff_not, wx] at q
    exact ⟨_, rfl, (no q).symm, hg0, rm_X.th⟩
  · rintro v Mq1 ⟨rfl, rfl⟩ q _
    have q' := ts_nf (fun z => q (b2i_0.mpr z))
    rw [decide_eq_true_eq, wx] at q'
    obtain ⟨n, n7, n0, e⟩ := q'
    refine pg_Ev.imp ?_ (hfh n n0 n7 e)
    rintro r Mq2 ⟨e1, e2, e3⟩
    exact ⟨e1, fun n' a b e' c hc => by rw [e, nI_eq (by omega) (by omega)] at e'; subst e'; exact e2 c hc, e3⟩
  · rintro v Mq1 ⟨rfl, rfl⟩ q ey Mq2 ⟨a1, a2⟩
    have q' := ts_nf (fun z => q (b2i_0.mpr z))
    rw [decide_eq_true_eq, wx] at q'
    obtain ⟨n, n7, n0, e⟩ := q'
    exact main n n0 n7 e (Or.inl ey) Mq2 (a1 n n0 n7 e) a2
  · rintro v Mq1 ⟨rfl, rfl⟩ q _; exact pg_Ev.mono (by omega) (rm_isCloth (d := 0) hR hg0.l hk.l)
  · rintro v Mq1 ⟨rfl, rfl⟩ q _ v2 Mq2 ⟨rfl, rfl⟩ _
    have q' := ts_nf (fun z => q (b2i_0.mpr z))
    rw [decide_eq_true_eq, wx] at q'
    obtain ⟨n, n7, n0, e⟩ := q'
    refine pg_Ev.imp ?_ (hfh n n0 n7 e)
    rintro r Mq2 ⟨e1, e2, e3⟩
    exact ⟨e1, fun n' a b e' c hc => by rw [e, nI_eq (by omega) (by omega)] at e'; subst e'; exact e2 c hc, e3⟩
  · rintro v Mq1 ⟨rfl, rfl⟩ q ey v2 Mq2 ⟨rfl, rfl⟩ q2 Mq3 ⟨a1, a2⟩
    have q' := ts_nf (fun z => q (b2i_0.mpr z))
    rw [decide_eq_true_eq, wx] at q'
    obtain ⟨n, n7, n0, e⟩ := q'
    obtain ⟨c, hc⟩ := Option.isSome_iff_exists.mp (ts_nf (fun z => q2 (b2i_0.mpr z)))
    obtain ⟨c1, c2⟩ := (sp_ix_some (by omega)).mp hc
    exact main n n0 n7 e (Or.inr ⟨c, c1, c2, ey⟩) Mq3 (a1 n n0 n7 e) a2
  · rintro v Mq1 ⟨rfl, rfl⟩ q ey v2 Mq2 ⟨rfl, rfl⟩ q2
    have q' := ts_nf (fun z => q (b2i_0.mpr z))
    rw [decide_eq_true_eq, wx] at q'
    obtain ⟨n, n7, n0, e⟩ := q'
    refine ⟨_, rfl, (hqN n n0 n7 e ey ?_).symm, hg0, rm_X.th⟩
    cases hi : sp_ix (G.L 4 0) y with
    | none => rfl
    | some j => rw [hi] at q2; exact absurd q2 (show ¬ (1 : Int32) = 0 by decide)
end PGR
