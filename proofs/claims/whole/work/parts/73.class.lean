/-! the class: what is felt: feel, starts, ask -/
theorem sp_son_no {L : sp_N} {E : sp_E} {fl : List (Nat × Nat × Nat)} {st k : Nat} (h : sp_son L E fl st k = false) : ∀ n, k ≤ n → sp_son L E fl st n = false := by
  intro n hn
  induction n with
  | zero => rw [show k = 0 by omega] at h; exact h
  | succ n ih =>
    by_cases e : k = n + 1
    · rw [← e]; exact h
    · simp only [sp_son]; rw [ih (by omega)]; rfl
/-- the counts of a row, one start more -/
theorem sp_al_z {L : sp_N} {E : sp_E} {set c n v i : Nat} (h : set.testBit i = false) : sp_al L E set c n v (i + 1) = sp_al L E set c n v i := by
  unfold sp_al; rw [fb_ct_succ, h]; rfl
theorem sp_al_mo {L : sp_N} {E : sp_E} {set c n : Nat} : ∀ i v, sp_al L E set c n v i ≤ sp_mo L E set c n i := by
  intro i
  induction i with
  | zero => intro v; exact Nat.le_refl _
  | succ i ih =>
    intro v
    simp only [sp_mo]
    by_cases q : sp_wetb L E c i n = v
    · subst q; exact Nat.le_max_right _ _
    · have : sp_al L E set c n v (i + 1) = sp_al L E set c n v i := by unfold sp_al; rw [fb_ct_succ]; simp [q]
      rw [this]
      exact Nat.le_trans (ih v) (Nat.le_max_left _ _)
theorem sp_mo_z {L : sp_N} {E : sp_E} {set c n i : Nat} (h : set.testBit i = false) : sp_mo L E set c n (i + 1) = sp_mo L E set c n i := by
  simp only [sp_mo]
  rw [sp_al_z h]
  exact Nat.max_eq_left (sp_al_mo i _)
section PGP
variable {S : pg_S} {Λ : pg_L} {d h l : Nat} {M : pg_M} {G : sp_G} {L s : sp_N} {E : sp_E} {f : List (Nat × Nat × Nat)}
theorem rc_feltAdd {c k w : Nat} (hF : pg_full Λ) (hf : rc_F M 13 f) : pg_Ev S Λ YX2_add d [.ref 13, .int (nI c), .int (nI k), .int (nI w)] M (fun r M' => ∃ v, r = some (.int v) ∧ (v = b2i (decide (f.length < 8)) ∧ rc_F M' 13 (if f.length = 8 then f else f ++ [(c, k, w)]) ∧ pg_fr [13, 14, 15, 16] M M')) := by
  obtain ⟨f1, f2, f3⟩ := hf
  by_cases h8 : f.length = 8
  · have c8 : ¬ M.1 13 5 < 8 := by rw [f1, h8]; decide
    refine oX2_add (sX2_add_0 hF.felt (fun c => absurd c c8) (fun c => absurd c c8) (fun c => absurd c c8) (fun c => absurd c c8) (fun _ => ⟨0, rfl, by rw [h8]; rfl, by rw [if_pos h8]; exact ⟨f1, f2, f3⟩, pg_fr.rfl'⟩))
  · have c8 : M.1 13 5 < 8 := by rw [f1]; exact nI_lt (b := 8) (by omega) (by decide)
    have hcl : (M.1 13 5).toNatClampNeg = f.length := by rw [f1]; exact nI_clamp (by omega)
    have hin : vp_in (nI f.length) 8 := vp_in_nI (by omega) (by decide)
    have a1 : (pg_si M (13 + 1) (M.1 13 5).toNatClampNeg (nI c)).1 13 5 = nI f.length := by rw [pg_si_ne (by decide)]; exact f1
    refine oX2_add (sX2_add_0 hF.felt (fun _ => by rw [f1]; exact hin) (fun _ => by rw [a1]; exact hin) (fun _ N1 hN => ?_) (fun _ N1 hN N2 hN2 => ?_) (fun c => absurd c8 c))
    · rw [hN, pg_si_ne (by decide), a1]; exact hin
    · rw [a1, hcl, nI_clamp (by omega)] at hN
      have b1 : N1.1 13 5 = nI f.length := by rw [hN, pg_si_ne (by decide), pg_si_ne (by decide)]; exact f1
      rw [b1, nI_clamp (by omega), pg_si_ne (by decide), b1, nI_1] at hN2
      have fr : pg_fr [13, 14, 15, 16] M N2 := by rw [hN2, hN]; exact (((pg_fr.si (by simp)).trans (pg_fr.si (by simp))).trans (pg_fr.si (by simp))).trans (pg_fr.si (by simp))
      refine ⟨1, rfl, by rw [decide_eq_true (by omega)]; rfl, ?_, fr⟩
      rw [if_neg h8]
      refine ⟨by rw [hN2, pg_si_at, pk_us]; simp, by simp; omega, fun j e he => ?_⟩
      rw [hN2, pg_si_ne (by decide), pg_si_ne (by decide), pg_si_ne (by decide), pg_si_ne (by decide), pg_si_ne (by decide), pg_si_at, hN, pg_si_ne (by decide), pg_si_at, pg_si_at, pg_si_ne (by decide), pg_si_ne (by decide), pg_si_ne (by decide)]
      by_cases hj : j < f.length
      · rw [List.getElem?_append_left hj] at he
        rw [pk_un (by omega), pk_un (by omega), pk_un (by omega)]
        exact f3 j e he
      · rw [List.getElem?_append_right (by omega)] at he
        have hj2 := (List.getElem?_eq_some_iff.mp he).1
        simp at hj2
        rw [show j - f.length = 0 by omega] at he
        simp at he
        rw [← he, show j = f.length by omega, pk_us, pk_us, pk_us]
        exact ⟨rfl, rfl, rfl⟩
theorem rc_feel {x y z : Int32} (hF : pg_full Λ) (hg : rc_G M G) (hk : sp_okG G h) : pg_Ev S Λ YX10_feel (d + 1) [.ref 0, .int x, .int y, .int z] M (fun r M' => ∃ v, r = some (.int v) ∧ (v = (sp_qfeel G x y z).1 ∧ rc_G M' (sp_qfeel G x y z).2 ∧ rc_out M M')) := by
  have h6 := hk.l.1
  have hL := hg.d.x5 hF
  have hhas := rc_has' (S := S) (d := d) (x := x) hL hg.l hk.l
  have no : (sp_ix (G.L 4 0) x = none ∨ sp_ix 13 y = none ∨ sp_ix 10 z = none) → sp_qfeel G x y z = (0, G) := by
    intro q
    unfold sp_qfeel
    rcases q with q | q | q
    · rw [q]
    · rw [q]; cases sp_ix (G.L 4 0) x <;> rfl
    · rw [q]; cases sp_ix (G.L 4 0) x <;> cases sp_ix 13 y <;> rfl
  have same : sp_qfeel G x y z = (0, G) → ∃ v, (some (Value.int 0) = some (Value.int v)) ∧ (v = (sp_qfeel G x y z).1 ∧ rc_G M (sp_qfeel G x y z).2 ∧ rc_out M M) := fun q => by
    rw [q]; exact ⟨0, rfl, rfl, hg, rc_out.rfl'⟩
  have y13 : (¬ y < 0 → ¬ (12 : Int32) < y → ∃ k, k < 13 ∧ y = nI k) := fun a b => by
    obtain ⟨k, hk1, rfl⟩ := nI_of a
    rw [show (12 : Int32) = nI 12 from rfl, nI_ltI (by omega) hk1] at b
    exact ⟨k, by omega, rfl⟩
  have z10 : (¬ z < 0 → z ≤ 9 → ∃ k, k < 10 ∧ z = nI k) := fun a b => by
    obtain ⟨k, hk1, rfl⟩ := nI_of a
    rw [show (9 : Int32) = nI 9 from rfl, nI_leI hk1 (by omega)] at b
    exact ⟨k, by omega, rfl⟩
  have ny : (y < 0 ∨ (12 : Int32) < y) → sp_ix 13 y = none := fun q => by
    rw [sp_ix_none (by decide)]
    rintro k hk1 rfl
    rcases q with q | q
    · exact nI_pos (by omega) q
    · rw [show (12 : Int32) = nI 12 from rfl, nI_ltI (by omega) (by omega)] at q; omega
  have nz : (z < 0 ∨ ¬ z ≤ 9) → sp_ix 10 z = none := fun q => by
    rw [sp_ix_none (by decide)]
    rintro k hk1 rfl
    rcases q with q | q
    · exact nI_pos (by omega) q
    · rw [show (9 : Int32) = nI 9 from rfl, nI_leI (by omega) (by omega)] at q; omega
  refine oX10_feel (sX10_feel_0 (Q0 := fun v M' => v = b2i (sp_ix (G.L 4 0) x).isSome ∧ M' = M) (Q1 := fun v M' => v = (sp_qfeel G x y z).1 ∧ rc_G M' (sp_qfeel G x y z).2 ∧ rc_out M M') hF.x10 hL hF.felt hhas ?_ ?_ ?_ ?_ ?_ ?_ ?_ ?_)
  · rintro v M1 ⟨rfl, rfl⟩ c
    exact same (no (Or.inl (by cases hi : sp_ix (G.L 4 0) x with
      | none => rfl
      | some j => rw [hi] at c; exact absurd c (show ¬ (1 : Int32) = 0 by decide))))
  · rintro v M1 ⟨rfl, rfl⟩ _ c; exact same (no (Or.inr (Or.inl (ny (Or.inl c)))))
  · rintro v M1 ⟨rfl, rfl⟩ _ _ c; exact same (no (Or.inr (Or.inl (ny (Or.inr c)))))
  · rintro v M1 ⟨rfl, rfl⟩ _ _ _ c; exact same (no (Or.inr (Or.inr (nz (Or.inl c)))))
  · rintro v M1 ⟨rfl, rfl⟩ c0 c1 c2 c3 c4
    obtain ⟨k, hk1, rfl⟩ := y13 c1 c2
    obtain ⟨w, hw1, rfl⟩ := z10 c3 c4
    cases hi : sp_ix (G.L 4 0) x with
    | none => rw [hi] at c0; exact absurd rfl c0
    | some c =>
      obtain ⟨hc, rfl⟩ := (sp_ix_some (by omega)).mp hi
      refine pg_Ev.imp ?_ (rc_feltAdd (d := d) (c := c) (k := k) (w := w) hF hg.f)
      rintro r M2 ⟨v, e1, e2, e3, e4⟩
      have e : sp_qfeel G (nI c) (nI k) (nI w) = if G.fl.length = 8 then (0, G) else (1, G.felt (G.fl ++ [(c, k, w)])) := by unfold sp_qfeel; rw [hi, sp_ix_nI (by decide) hk1, sp_ix_nI (by decide) hw1]
      have f8 := hk.f.1
      have bk := hg.back (t := G.s) (us := G.us) (f := if G.fl.length = 8 then G.fl else G.fl ++ [(c, k, w)]) (fun b h1 => e4.1 b (by simp; omega)) (fun b h1 => e4.2.1 b (by simp; omega)) e4.2.2 (hg.s.keep e4 (fun i hi => by simp; omega)) e3 (hg.u.fr (e4.1 _ (by simp)) (fun b h1 h2 => e4.1 b (by simp; omega)))
      have o : rc_out M1 M2 := fun b hb => ⟨e4.1 b (by simp; omega), e4.2.1 b (by simp; omega)⟩
      rw [e]
      by_cases h8 : G.fl.length = 8
      · rw [if_pos h8] at bk ⊢
        exact ⟨v, e1, by rw [e2, h8]; rfl, bk, o⟩
      · rw [if_neg h8] at bk ⊢
        exact ⟨v, e1, by rw [e2, decide_eq_true (by omega)]; rfl, bk, o⟩
  · rintro v M1 ⟨rfl, rfl⟩ _ _ _ _ _ v2 M2 q; exact ⟨v2, rfl, q⟩
  · rintro v M1 ⟨rfl, rfl⟩ _ _ _ _ _ v2 M2 q
    rw [q.1]
    unfold sp_qfeel
    cases sp_ix (G.L 4 0) x <;> cases sp_ix 13 y <;> cases sp_ix 10 z <;> first | exact b2i_nar false | skip
    simp only
    split
    · exact b2i_nar false
    · exact b2i_nar true
  · rintro v M1 ⟨rfl, rfl⟩ _ _ _ _ c; exact same (no (Or.inr (Or.inr (nz (Or.inr c)))))
theorem rc_allSo {st : Nat} (hst : st < 12) (hl19 : 19 ≤ l) (hF : pg_full Λ) (hL : pg_isX5 Λ l) (hf : rc_F M 13 f) (hok : sp_okF L f) (hl : rc_L M l L E) (hk : sp_okL L E) : pg_Ev S Λ YX2_allSo (d + 3) [.ref 13, .ref l, .int (nI st)] M (fun r M' => ∃ v, r = some (.int v) ∧ (v = b2i (sp_son L E f st f.length) ∧ pg_fr [l + 14] M M')) := by
  have h6 := hk.1
  have f2 := hf.2.1
  refine oX2_allSo (sX2_allSo_0 ?_)
  refine pg_loop (fun i (m : pg_M) => pg_At S Λ YX2_allSo (d + 3) 2 [(0, .ref 13), (1, .ref l), (2, .int (nI st)), (3, .int (nI i))] [] m _) (fun i m => sp_son L E f st i = true ∧ pg_fr [l + 14] M m) f.length ?_ ?_ 0 M (Nat.zero_le _) ⟨rfl, pg_fr.rfl'⟩
  · rintro m ⟨m1, m2⟩
    have hm : m.1 13 5 = nI f.length := by rw [m2.1 13 (by simp <;> omega)]; exact hf.1
    have c9 : nI f.length ≤ nI f.length := nI_le (Nat.le_refl _) (by omega)
    refine sX2_allSo_2 hF.felt (fun _ => ⟨1, rfl, by rw [m1]; rfl, m2⟩) (fun c => absurd (by rw [hm]; exact c9) c)
  · rintro i m hi ⟨m1, m2⟩ ih
    have hm : m.1 13 5 = nI f.length := by rw [m2.1 13 (by simp <;> omega)]; exact hf.1
    have c9 : ¬ nI f.length ≤ nI i := nI_ge hi (by omega)
    have hget : f[i]? = some (f.getD i (0, 0, 0)) := by rw [List.getElem?_eq_getElem hi]; simp [hi]
    have hson : sp_son L E f st (i + 1) = (sp_son L E f st i && decide (sp_wetb L E (f.getD i (0, 0, 0)).1 st (f.getD i (0, 0, 0)).2.1 = (f.getD i (0, 0, 0)).2.2)) := rfl
    generalize f.getD i (0, 0, 0) = e at hget hson
    obtain ⟨o1, o2, o3⟩ := hok.2 i e hget
    rw [m1, Bool.true_and] at hson
    have hcl : (nI i).toNatClampNeg = i := nI_clamp (by omega)
    refine sX2_allSo_2 hF.felt (fun c => absurd (by rw [hm] at c; exact c) c9) (fun _ => ?_)
    refine pg_loop (fun k (m : pg_M) => pg_At S Λ YX2_allSo (d + 3) 17 [(0, .ref 13), (1, .ref l), (2, .int (nI st)), (3, .int (nI i)), (4, .int (nI (sp_wetb L E e.1 st k))), (5, .int (nI k))] [] m _) (fun k m => pg_fr [l + 14] M m) e.2.1 ?_ ?_ 0 m (Nat.zero_le _) m2
    · intro m n2
      obtain ⟨p1, p2, p3⟩ := (hf.fr (M' := m) (fun j hj => n2.1 _ (by simp; omega))).2.2 i e hget
      have wl := sp_wetb_le (L := L) (E := E) (c := e.1) (start := st) e.2.1
      have q2 : m.1 (13 + 2) (nI i).toNatClampNeg = nI e.2.1 := by rw [hcl]; exact p2
      have q3 : m.1 (13 + 3) (nI i).toNatClampNeg = nI e.2.2 := by rw [hcl]; exact p3
      have c8 : nI e.2.1 ≤ nI e.2.1 := nI_le (Nat.le_refl _) (by omega)
      refine sX2_allSo_17 (Q0 := fun _ _ => True) (Q1 := fun _ _ => True) hF.felt hL (vp_in_nI (by omega) (by decide)) ?_ ?_ ?_ ?_ ?_ <;> simp only [q2, q3]
      · intro _ c1
        rw [nI_eq (by omega) (by omega)] at c1
        rw [nI_1]
        exact ih m ⟨by rw [hson, decide_eq_true c1], n2⟩
      · intro _ c1
        rw [nI_eq (by omega) (by omega)] at c1
        exact ⟨0, rfl, by rw [sp_son_no (by rw [hson, decide_eq_false c1]) f.length hi]; rfl, n2⟩
      all_goals exact fun c => absurd c8 c
    · intro k m hk1 n2 ih2
      obtain ⟨p1, p2, p3⟩ := (hf.fr (M' := m) (fun j hj => n2.1 _ (by simp; omega))).2.2 i e hget
      have wl := sp_wetb_le (L := L) (E := E) (c := e.1) (start := st) k
      have q1 : m.1 (13 + 1) (nI i).toNatClampNeg = nI e.1 := by rw [hcl]; exact p1
      have q2 : m.1 (13 + 2) (nI i).toNatClampNeg = nI e.2.1 := by rw [hcl]; exact p2
      have c8 : ¬ nI e.2.1 ≤ nI k := nI_ge hk1 (by omega)
      have hlm : rc_L m l L E := hl.keep n2 (fun j a b c => by simp; omega)
      refine sX2_allSo_17 (Q0 := fun v M' => v = nI (sp_wind L (st + k)) ∧ M' = m) (Q1 := fun v M' => v = nI (sp_wetb L E e.1 st (k + 1)) ∧ pg_fr [l + 14] M M') hF.felt hL (vp_in_nI (by omega) (by decide)) ?_ ?_ ?_ ?_ ?_ <;> simp only [q1, q2]
      · exact fun c => absurd c c8
      · exact fun c => absurd c c8
      · intro _; rw [nI_add]; exact pg_Ev.mono (by omega) (rc_windAt (d := 0) (by omega) hL hlm hk)
      · rintro _ v M1 ⟨rfl, rfl⟩
        refine pg_Ev.imp ?_ (rc_wetAfter o1 (by omega) hL hlm hk)
        rintro r M2 ⟨v, e1, e2, e3⟩
        exact ⟨v, e1, e2, n2.trans e3⟩
      · rintro _ v M1 _ v2 M2 ⟨rfl, n3⟩
        rw [nI_1]
        exact ih2 M2 n3
theorem rc_startBits (hl19 : 19 ≤ l) (hF : pg_full Λ) (hL : pg_isX5 Λ l) (hf : rc_F M 13 f) (hok : sp_okF L f) (hl : rc_L M l L E) (hk : sp_okL L E) : pg_Ev S Λ YX2_startBits (d + 4) [.ref 13, .ref l] M (fun r M' => ∃ v, r = some (.int v) ∧ (v = nI (sp_stb L E f) ∧ pg_fr [l + 14] M M')) := by
  have hw := hk.2.2.2.2.1
  refine oX2_startBits (sX2_startBits_0 ?_)
  refine pg_loop (fun i (q : Int32 × pg_M) => pg_At S Λ YX2_startBits (d + 4) 4 [(0, .ref 13), (1, .ref l), (2, .int q.1), (3, .int (nI i))] [] q.2 _) (fun i q => q.1 = nI (sp_mk (fun s => sp_son L E f s f.length) i) ∧ pg_fr [l + 14] M q.2) (L 4 3) ?_ ?_ 0 (0, M) (Nat.zero_le _) ⟨rfl, pg_fr.rfl'⟩
  · rintro ⟨v, m⟩ ⟨rfl, m2⟩
    have hm : m.1 l 12 = nI (L 4 3) := (hl.keep m2 (fun j a b c => by simp; omega)).2.2.1
    have c9 : nI (L 4 3) ≤ nI (L 4 3) := nI_le (Nat.le_refl _) (by omega)
    refine sX2_startBits_4 (Q0 := fun _ _ => True) hL hF.felt ?_ ?_ ?_ ?_ <;> simp only [hm]
    · exact fun _ => ⟨_, rfl, rfl, m2⟩
    all_goals exact fun c => absurd c9 c
  · rintro i ⟨v, m⟩ hi ⟨rfl, m2⟩ ih
    simp only at m2 ⊢
    have hlm : rc_L m l L E := hl.keep m2 (fun j a b c => by simp; omega)
    have hm : m.1 l 12 = nI (L 4 3) := hlm.2.2.1
    have c9 : ¬ nI (L 4 3) ≤ nI i := nI_ge hi (by omega)
    refine sX2_startBits_4 (Q0 := fun v M' => v = b2i (sp_son L E f i f.length) ∧ pg_fr [l + 14] M M') hL hF.felt ?_ ?_ ?_ ?_ <;> simp only [hm]
    · exact fun c => absurd c c9
    · intro _
      refine pg_Ev.imp ?_ (rc_allSo (st := i) (by omega) hl19 hF hL (hf.fr (fun j hj => m2.1 _ (by simp; omega))) hok hlm hk)
      rintro r M2 ⟨v, e1, e2, e3⟩
      exact ⟨v, e1, e2, m2.trans e3⟩
    · rintro _ v M1 ⟨rfl, n2⟩ c1
      rw [nI_1]
      refine ih (_, M1) ⟨?_, n2⟩
      refine congrArg nI (a₂ := sp_mk (fun s => sp_son L E f s f.length) (i + 1)) ?_
      simp [sp_mk, b2i_0.mp c1]
    · rintro _ v M1 ⟨rfl, n2⟩ c1
      rw [nI_1, nb_set (by omega)]
      refine ih (_, M1) ⟨?_, n2⟩
      refine congrArg nI (a₂ := sp_mk (fun s => sp_son L E f s f.length) (i + 1)) ?_
      simp [sp_mk, ts_nf (fun q => c1 (b2i_0.mpr q))]
theorem rc_starts (hF : pg_full Λ) (hg : rc_G M G) (hk : sp_okG G h) : pg_Ev S Λ YX10_starts (d + 5) [.ref 0] M (fun r M' => ∃ v, r = some (.int v) ∧ (v = nI (sp_stb G.L G.E G.fl) ∧ rc_G M' G ∧ rc_out M M')) := by
  have gdl := hg.d.l
  refine oX10_starts (sX10_starts_0 (Q0 := fun v M' => v = nI (sp_stb G.L G.E G.fl) ∧ pg_fr [M.2.2 0 8 + 14] M M') hF.x10 hF.felt (rc_startBits (by omega) hF (hg.d.x5 hF) hg.f hk.f hg.l hk.l) ?_)
  rintro v M1 ⟨rfl, fr⟩
  have p : pg_pf rc_q M M1 := pg_pf.of fr (fun b hb => by simp at hb; subst hb; exact hg.d.q14)
  exact ⟨_, rfl, rfl, hg.q p, rc_out.q p⟩
theorem rc_mostAlike {set c n : Nat} (hset : set < 4096) (hz : ∀ i, L 4 3 ≤ i → set.testBit i = false) (hw : L 4 3 ≤ 12) (hF : pg_full Λ) (hr : ∀ i, i < L 4 3 → M.1 17 i = nI (sp_wetb L E c i n)) : pg_Ev S Λ YX2_mostAlike (d + 1) [.ref 13, .int (nI set)] M (fun r M' => ∃ v, r = some (.int v) ∧ (v = nI (sp_mo L E set c n (L 4 3)) ∧ pg_fr [18] M M')) := by
  refine oX2_mostAlike (sX2_mostAlike_0 hF.felt ?_)
  refine pg_loop (fun i (q : Int32 × pg_M) => pg_At S Λ YX2_mostAlike (d + 1) 12 [(0, .ref 13), (1, .int (nI set)), (2, .int q.1), (3, .int (nI i))] [] q.2 _) (fun i q => q.1 = nI (sp_mo L E set c n (min i (L 4 3))) ∧ pg_fr [18] M q.2 ∧ ∀ v, v < 10 → q.2.1 18 v = nI (sp_al L E set c n v (min i (L 4 3)))) 12 ?_ ?_ 0 (0, _) (Nat.zero_le _) ⟨by rw [Nat.zero_min]; rfl, pg_fr.sa (by simp), fun v hv => by show (pg_sa M (13 + 5) _).1 18 v = _; rw [pg_sa_at, if_pos hv, Nat.zero_min]; rfl⟩
  · rintro ⟨v, m⟩ ⟨rfl, m2, m3⟩
    have c9 : (12 : Int32) ≤ nI 12 := by decide
    refine sX2_mostAlike_12 hF.felt (fun _ => ⟨_, rfl, by rw [Nat.min_eq_right hw], m2⟩) (fun c => absurd c9 c) (fun c => absurd c9 c) (fun c => absurd c9 c) (fun c => absurd c9 c) (fun c => absurd c9 c) (fun c => absurd c9 c)
  · rintro i ⟨v, m⟩ hi ⟨rfl, m2, m3⟩ ih
    simp only at m2 m3 ⊢
    have c9 : ¬ (12 : Int32) ≤ nI i := nI_ge (b := 12) hi (by decide)
    have hcl : (nI i).toNatClampNeg = i := nI_clamp (by omega)
    have wl := sp_wetb_le (L := L) (E := E) (c := c) (start := i) n
    have bi := nb_bit (n := set) (k := i) (by omega) (by omega)
    have hrow : i < L 4 3 → m.1 (13 + 4) (nI i).toNatClampNeg = nI (sp_wetb L E c i n) := fun q => by rw [hcl]; show m.1 17 i = _; rw [m2.1 17 (by simp)]; exact hr i q
    have hlt : ¬ ((nI set >>> (nI i &&& 31)) &&& 1) = 0 → i < L 4 3 := fun c1 => by
      rw [bi] at c1
      exact Nat.lt_of_not_le (fun q => c1 (hz i q))
    refine sX2_mostAlike_12 hF.felt (fun c => absurd c c9) (fun _ => vp_in_nI hi (by decide)) (fun _ c1 => ?_) (fun _ c1 c2 => ?_) (fun _ c1 c2 c3 => ?_) (fun _ c1 c2 c3 => ?_) (fun _ c1 c2 c3 N1 hN => ?_)
    · rw [bi] at c1
      rw [nI_1]
      refine ih (_, m) ⟨?_, m2, fun v hv => ?_⟩
      · show nI _ = nI _
        by_cases q : i < L 4 3
        · rw [Nat.min_eq_left (by omega), Nat.min_eq_left (by omega), sp_mo_z c1]
        · rw [Nat.min_eq_right (by omega), Nat.min_eq_right (by omega)]
      · show m.1 18 v = _
        rw [m3 v hv]
        by_cases q : i < L 4 3
        · rw [Nat.min_eq_left (by omega), Nat.min_eq_left (by omega), sp_al_z c1]
        · rw [Nat.min_eq_right (by omega), Nat.min_eq_right (by omega)]
    · rw [hrow (hlt c1)] at c2; exact absurd c2 (nI_pos (by omega))
    · rw [hrow (hlt c1), show (10 : Int32) = nI 10 from rfl, nI_leI (by omega) (by omega)] at c3; omega
    · rw [hrow (hlt c1)]; exact vp_in_nI (by omega) (by decide)
    · have q := hlt c1
      have al0 := sp_al_le (L := L) (E := E) (set := set) (c := c) (n := n) (v := sp_wetb L E c i n) (i + 1)
      have mo0 := sp_mo_le (L := L) (E := E) (set := set) (c := c) (n := n) i
      rw [bi] at c1
      rw [Nat.min_eq_left (by omega)] at m3 ⊢
      rw [hrow q, nI_clamp (by omega)] at hN ⊢
      have hal : ∀ v, sp_al L E set c n v (i + 1) = sp_al L E set c n v i + (if sp_wetb L E c i n = v then 1 else 0) := fun v => by unfold sp_al; rw [fb_ct_succ, ts_nf c1]; simp
      have e9 : m.1 (13 + 5) (sp_wetb L E c i n) + 1 = nI (sp_al L E set c n (sp_wetb L E c i n) (i + 1)) := by
        show m.1 18 _ + 1 = _
        rw [m3 _ (by omega), nI_1, hal, if_pos rfl]
      rw [e9] at hN
      have e8 : N1.1 (13 + 5) (sp_wetb L E c i n) = nI (sp_al L E set c n (sp_wetb L E c i n) (i + 1)) := by rw [hN, pg_si_at, pk_us]
      rw [e8, pg_max_nI (by omega) (by omega), nI_1]
      refine ih (_, N1) ⟨?_, ?_, fun v hv => ?_⟩
      · show nI _ = nI _
        rw [Nat.min_eq_left (by omega)]; rfl
      · show pg_fr [18] M N1
        rw [hN]; exact m2.trans (pg_fr.si (by simp))
      · show N1.1 18 v = _
        rw [Nat.min_eq_left (by omega), hN]
        show (pg_si m 18 _ _).1 18 v = _
        rw [pg_si_at]
        by_cases e : v = sp_wetb L E c i n
        · subst e; rw [pk_us]
        · rw [pk_un e, m3 v hv, hal v, if_neg (fun z => e z.symm), Nat.add_zero]
theorem rc_bestHours {c : Nat} (hc : c < L 4 0) (hl19 : 19 ≤ l) (hF : pg_full Λ) (hL : pg_isX5 Λ l) (hf : rc_F M 13 f) (hok : sp_okF L f) (hl : rc_L M l L E) (hk : sp_okL L E) : pg_Ev S Λ YX2_bestHours (d + 5) [.ref 13, .ref l, .int (nI c)] M (fun r M' => ∃ v, r = some (.int v) ∧ (v = sp_oI (sp_ask L E (sp_stb L E f) c 13).1 ∧ pg_fr [17, 18, l + 14] M M')) := by
  have h6 := hk.1
  have hw := hk.2.2.2.2.1
  have hst := sp_stb_lt (fl := f) hk
  have hz : ∀ i, L 4 3 ≤ i → (sp_stb L E f).testBit i = false := fun i hi => by unfold sp_stb; rw [sp_mk_bit]; simp [show ¬ i < L 4 3 by omega]
  suffices hs : ∀ N : Nat, N = 13 → pg_Ev S Λ YX2_bestHours (d + 5) [.ref 13, .ref l, .int (nI c)] M (fun r M' => ∃ v, r = some (.int v) ∧ (v = sp_oI (sp_ask L E (sp_stb L E f) c N).1 ∧ pg_fr [17, 18, l + 14] M M')) from hs 13 rfl
  intro N hN
  refine oX2_bestHours (sX2_bestHours_0 (Q0 := fun v M' => v = nI (sp_stb L E f) ∧ pg_fr [l + 14] M M') hF.felt (rc_startBits hl19 hF hL hf hok hl hk) ?_)
  rintro v M1 ⟨rfl, f1⟩
  rw [sp_pc_bc _ hst]
  generalize sp_stb L E f = set at hst hz ⊢
  have f1' : pg_fr [17, 18, l + 14] M M1 := f1.mono (fun b hb => by simp at hb ⊢; omega)
  refine pg_loop (fun n (q : Int32 × Int32 × pg_M) => pg_At S Λ YX2_bestHours (d + 5) 27 [(0, .ref 13), (1, .ref l), (2, .int (nI c)), (3, .int (nI set)), (4, .int q.2.1), (5, .int q.1), (6, .int (nI n))] [] q.2.2 _) (fun n q => q.1 = sp_oI (sp_ask L E set c n).1 ∧ q.2.1 = nI (sp_ask L E set c n).2 ∧ pg_fr [17, 18, l + 14] M q.2.2 ∧ ∀ i, i < L 4 3 → q.2.2.1 17 i = nI (sp_wetb L E c i n)) N ?_ ?_ 0 (_, _, _) (Nat.zero_le _) ⟨rfl, rfl, f1'.trans (pg_fr.sa (by simp)), fun i hi => by show (pg_sa M1 (13 + 4) _).1 17 i = _; rw [pg_sa_at, if_pos (by omega)]; rfl⟩
  · rintro ⟨v5, v4, m⟩ ⟨rfl, rfl, m3, m4⟩
    refine sX2_bestHours_27 (Q0 := fun _ _ => True) hF.felt (fun _ => ⟨_, rfl, rfl, m3⟩) ?_ ?_ ?_
    all_goals exact fun c => absurd (show (12 : Int32) < nI N by rw [hN]; decide) c
  · rintro n ⟨v5, v4, m⟩ hn ⟨rfl, rfl, m3, m4⟩ ih
    simp only at m3 m4 ⊢
    have c9 : ¬ (12 : Int32) < nI n := by rw [show (12 : Int32) = nI 12 from rfl, nI_ltI (by omega) (by omega)]; omega
    have la := (sp_ask_le (L := L) (E := E) (set := set) (c := c) n).1
    have lm := sp_mo_le (L := L) (E := E) (set := set) (c := c) (n := n) (L 4 3)
    have inner : ∀ (v4 v5 : Int32) (m : pg_M), v5 = sp_oI (sp_ask L E set c (n + 1)).1 → v4 = nI (sp_ask L E set c (n + 1)).2 → pg_fr [17, 18, l + 14] M m → (∀ i, i < L 4 3 → m.1 17 i = nI (sp_wetb L E c i n)) → pg_At S Λ YX2_bestHours (d + 5) 59 [(0, .ref 13), (1, .ref l), (2, .int (nI c)), (3, .int (nI set)), (4, .int v4), (5, .int v5), (6, .int (nI n)), (8, .int 0)] [] m (fun r M' => ∃ v, r = some (.int v) ∧ (v = sp_oI (sp_ask L E set c N).1 ∧ pg_fr [17, 18, l + 14] M M')) := by
      intro v4 v5 m e5 e4 n3 n4
      refine pg_loop (fun j (m : pg_M) => pg_At S Λ YX2_bestHours (d + 5) 59 [(0, .ref 13), (1, .ref l), (2, .int (nI c)), (3, .int (nI set)), (4, .int v4), (5, .int v5), (6, .int (nI n)), (8, .int (nI j))] [] m _) (fun j m => pg_fr [17, 18, l + 14] M m ∧ ∀ i, i < L 4 3 → m.1 17 i = nI (if i < j then sp_wetb L E c i (n + 1) else sp_wetb L E c i n)) (L 4 3) ?_ ?_ 0 m (Nat.zero_le _) ⟨n3, fun i hi => by rw [if_neg (by omega)]; exact n4 i hi⟩
      · rintro m ⟨p3, p4⟩
        have hm : m.1 l 12 = nI (L 4 3) := (hl.keep p3 (fun j a b c => by simp; omega)).2.2.1
        have c8 : nI (L 4 3) ≤ nI (L 4 3) := nI_le (Nat.le_refl _) (by omega)
        refine sX2_bestHours_59 (Q0 := fun _ _ => True) (Q1 := fun _ _ => True) hL hF.felt ?_ ?_ ?_ ?_ ?_ <;> simp only [hm]
        · intro _; rw [nI_1]; exact ih (v5, v4, m) ⟨e5, e4, p3, fun i hi => by have := p4 i hi; rw [if_pos hi] at this; exact this⟩
        all_goals exact fun c => absurd c8 c
      · rintro j m hj ⟨p3, p4⟩ ih2
        have hlm : rc_L m l L E := hl.keep p3 (fun j a b c => by simp; omega)
        have hm : m.1 l 12 = nI (L 4 3) := hlm.2.2.1
        have c8 : ¬ nI (L 4 3) ≤ nI j := nI_ge hj (by omega)
        have hcl : (nI j).toNatClampNeg = j := nI_clamp (by omega)
        have wl := sp_wetb_le (L := L) (E := E) (c := c) (start := j) n
        have hrow : m.1 (13 + 4) (nI j).toNatClampNeg = nI (sp_wetb L E c j n) := by rw [hcl]; show m.1 17 j = _; rw [p4 j hj, if_neg (by omega)]
        refine sX2_bestHours_59 (Q0 := fun v M' => v = nI (sp_wind L (j + n)) ∧ M' = m) (Q1 := fun v M' => v = nI (sp_wetb L E c j (n + 1)) ∧ pg_fr [l + 14] m M') hL hF.felt ?_ ?_ ?_ ?_ ?_ <;> simp only [hm, hrow]
        · exact fun c => absurd c c8
        · intro _; exact vp_in_nI (by omega) (by decide)
        · intro _; rw [nI_add]; exact pg_Ev.mono (by omega) (rc_windAt (d := 0) (by omega) hL hlm hk)
        · rintro _ v M2 ⟨rfl, rfl⟩; exact pg_Ev.mono (by omega) (rc_wetAfter (d := 0) hc (by omega) hL hlm hk)
        · rintro _ v M2 _ v2 M3 ⟨rfl, f3⟩
          rw [nI_1, hcl]
          refine ih2 _ ⟨(p3.trans (f3.mono (fun b hb => by simp at hb ⊢; omega))).trans (pg_fr.si (by simp)), fun i hi => ?_⟩
          show (pg_si M3 17 j _).1 17 i = _
          rw [pg_si_at]
          by_cases e : i = j
          · subst e; rw [pk_us, if_pos (by omega)]
          · rw [pk_un e, f3.1 17 (by simp; omega), p4 i hi]
            congr 1
            by_cases e2 : i < j
            · rw [if_pos e2, if_pos (by omega)]
            · rw [if_neg e2, if_neg (by omega)]
    refine sX2_bestHours_27 (Q0 := fun v M' => v = nI (sp_mo L E set c n (L 4 3)) ∧ pg_fr [18] m M') hF.felt (fun c => absurd c c9) (fun _ => pg_Ev.mono (by omega) (rc_mostAlike (d := 0) hst hz hw.2 hF m4)) ?_ ?_
    · rintro _ v M2 ⟨rfl, f2⟩ c1
      rw [nI_leI (by omega) (by omega)] at c1
      have e : sp_ask L E set c (n + 1) = sp_ask L E set c n := by simp only [sp_ask]; rw [if_neg (by omega)]
      exact inner _ _ M2 (by rw [e]) (by rw [e]) (m3.trans (f2.mono (fun b hb => by simp at hb ⊢; omega))) (fun i hi => by rw [f2.1 17 (by simp)]; exact m4 i hi)
    · rintro _ v M2 ⟨rfl, f2⟩ c1
      rw [nI_leI (by omega) (by omega)] at c1
      have e : sp_ask L E set c (n + 1) = (some n, sp_mo L E set c n (L 4 3)) := by simp only [sp_ask]; rw [if_pos (by omega)]
      exact inner _ _ M2 (by rw [e]; rfl) (by rw [e]) (m3.trans (f2.mono (fun b hb => by simp at hb ⊢; omega))) (fun i hi => by rw [f2.1 17 (by simp)]; exact m4 i hi)
theorem rc_ask {x : Int32} (hF : pg_full Λ) (hg : rc_G M G) (hk : sp_okG G h) : pg_Ev S Λ YX10_ask (d + 6) [.ref 0, .int x] M (fun r M' => ∃ v, r = some (.int v) ∧ (v = sp_qask G x ∧ rc_G M' G ∧ rc_out M M')) := by
  have h6 := hk.l.1
  have hL := hg.d.x5 hF
  have gdl := hg.d.l
  have hhas := rc_has' (S := S) (d := d + 5) (x := x) hL hg.l hk.l
  cases hi : sp_ix (G.L 4 0) x with
  | none =>
    have e : sp_qask G x = -1 := by unfold sp_qask; rw [hi]
    rw [e]
    rw [hi] at hhas
    refine oX10_ask (sX10_ask_0 (Q0 := fun v M' => v = b2i (none : Option Nat).isSome ∧ M' = M) (Q1 := fun _ _ => True) hF.x10 hL hF.felt hhas ?_ ?_ ?_)
    · rintro v M1 ⟨rfl, rfl⟩ _; exact ⟨_, rfl, rfl, hg, rc_out.rfl'⟩
    all_goals (rintro v M1 ⟨rfl, rfl⟩ c; exact absurd rfl c)
  | some c =>
    obtain ⟨hc, rfl⟩ := (sp_ix_some (by omega)).mp hi
    have e : sp_qask G (nI c) = sp_oI (sp_ask G.L G.E (sp_stb G.L G.E G.fl) c 13).1 := by unfold sp_qask; rw [hi]
    have hb := rc_bestHours (S := S) (d := d) hc (by omega) hF hL hg.f hk.f hg.l hk.l
    rw [e]
    rw [hi] at hhas
    generalize sp_oI (sp_ask G.L G.E (sp_stb G.L G.E G.fl) c 13).1 = z at hb ⊢
    refine oX10_ask (sX10_ask_0 (Q0 := fun v M' => v = b2i (some c).isSome ∧ M' = M) (Q1 := fun v M' => v = z ∧ pg_fr [17, 18, M.2.2 0 8 + 14] M M') hF.x10 hL hF.felt hhas ?_ ?_ ?_)
    · rintro v M1 ⟨rfl, rfl⟩ c; exact absurd c (show ¬ (1 : Int32) = 0 by decide)
    · rintro v M1 ⟨rfl, rfl⟩ _; exact hb
    · rintro v M1 ⟨rfl, rfl⟩ _ v2 M2 ⟨rfl, fr⟩
      have q14 := hg.d.q14
      have p : pg_pf rc_q M1 M2 := pg_pf.of fr (fun b hb => by
        simp only [List.mem_cons, List.not_mem_nil, or_false] at hb
        rcases hb with rfl | rfl | rfl
        · unfold rc_q; omega
        · unfold rc_q; omega
        · exact q14)
      exact ⟨_, rfl, rfl, hg.q p, rc_out.q p⟩
end PGP
