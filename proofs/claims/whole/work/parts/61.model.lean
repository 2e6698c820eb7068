/-! what the calls by hand answer, and what the reference does -/
def sp_qtake (G : sp_G) (x : Int32) : Int32 × sp_G := match sp_take G.L G.s x with
  | none => (0, G)
  | some t => (1, G.did t (sp_push G.us G.s))
def sp_qhang (G : sp_G) (x b : Int32) : Int32 × sp_G := match sp_hang G.L G.s x b with
  | none => (-1, G)
  | some t => (sp_left G.L t, G.did t (sp_push G.us G.s))
def sp_qwash (G : sp_G) (x : Int32) : Int32 × sp_G := match sp_wash G.L G.s x with
  | none => (-1, G)
  | some q => (nI q.1, G.did q.2 (sp_push G.us G.s))
def sp_qbuy (G : sp_G) (x : Int32) : Int32 × sp_G := match sp_buy G.s x with
  | none => (-1, G)
  | some t => (nI (G.s 4 0), G.did t (sp_push G.us G.s))
def sp_qhour (G : sp_G) : Int32 × sp_G := (nI (sp_hour G.L G.E G.s 0).2, G.did (sp_hour G.L G.E G.s 0).1 (sp_push G.us G.s))
def sp_qundo (G : sp_G) : Int32 × sp_G := match G.us.getLast? with
  | none => (0, G)
  | some t => (1, G.did t G.us.dropLast)
def sp_qmark (G : sp_G) (x : Int32) (back : Bool) : Int32 × sp_G := match sp_ix 4 x with
  | none => (0, G)
  | some m => if back then (match G.mk m with
    | none => (0, G)
    | some q => (1, G.back q.1 [] q.2)) else (1, G.marked (fun j => if j = m then some (G.s, G.fl) else G.mk j))
/-- as it was, but for the state now and what can be undone -/
def rm_samd (M M' : pg_M) : Prop := (∀ b, b ∈ [208, 213, 214, 215, 218, 222] → M'.1 b = M.1 b) ∧ (∀ b, b ∈ [212, 216] → M'.2.1 b = M.2.1 b) ∧ (∀ j, j ∈ [2, 16] → M'.1 207 j = M.1 207 j) ∧ ∀ j, 28 ≤ j → j < 270 → M'.1 221 j = M.1 221 j
theorem rm_samd.trans {M M1 M2 : pg_M} (h : rm_samd M M1) (h2 : rm_samd M1 M2) : rm_samd M M2 := ⟨fun b q => (h2.1 b q).trans (h.1 b q), fun b q => (h2.2.1 b q).trans (h.2.1 b q), fun b q => (h2.2.2.1 b q).trans (h.2.2.1 b q), fun b q r => (h2.2.2.2 b q r).trans (h.2.2.2 b q r)⟩
theorem rm_samd.of {M M1 : pg_M} (h : rm_same M M1) : rm_samd M M1 := ⟨h.1, h.2.1, fun j q => h.2.2.1 j (by simp at q ⊢; omega), fun j _ _ => h.2.2.2 j (by omega)⟩
theorem rm_samd.fu {M M1 : pg_M} (h : rm_fu M M1) : rm_samd M M1 := ⟨fun b q => h.1.1 b (by simp at q ⊢; omega), fun b q => h.1.2.1 b (by simp at q ⊢; omega), fun j q => h.2.1 j (by simp at q ⊢; omega), fun j _ _ => h.2.2.2 j (by omega)⟩
theorem rm_samd.st {M M1 : pg_M} (h : rm_fr 0 M M1) : rm_samd M M1 := ⟨fun b q => h.1.1 b (by simp at q ⊢; omega), fun b q => h.1.2.1 b (by simp at q ⊢; omega), fun j _ => by rw [h.1.1 207 (by simp)], fun j _ _ => h.2 j (by omega)⟩
theorem rm_G.did {M M' : pg_M} {G : sp_G} {t : sp_N} {us : List sp_N} (hg : rm_G M G) (h : rm_samd M M') (hs : rm_S M' 0 t) (hu : rm_us M' us) : rm_G M' (G.did t us) := by
  obtain ⟨h1, h2, h3, h4⟩ := h
  obtain ⟨gl, gn, gs, gf, gu, gm, gp, gt, gw⟩ := hg
  refine ⟨?_, ⟨by rw [h3 16 (by simp)]; exact gn.1, fun c hc => by rw [h2 216 (by simp)]; exact gn.2 c hc⟩, hs, gf.off (fun j a b => h4 j (by omega) (by omega)), hu, fun m hm => ⟨by rw [h1 222 (by simp)]; exact (gm m hm).1, fun t f q => ⟨((gm m hm).2 t f q).1.off (fun j a b => h4 j (by omega) (by omega)), ((gm m hm).2 t f q).2.off (fun j a b => h4 j (by omega) (by omega))⟩⟩, ?_, ⟨by rw [h3 2 (by simp)]; exact gt.1, fun j c q => by rw [h1 208 (by simp)]; exact gt.2 j c q⟩, fun k w q => by rw [h2 212 (by simp)]; exact gw k w q⟩
  · show rm_L M' G.L G.E
    unfold rm_L rm_E rm_U at *
    rw [h1 213 (by simp), h1 214 (by simp), h1 215 (by simp)]
    exact gl
  · show rm_P M' G.pl
    unfold rm_P at *
    rw [h1 218 (by simp)]
    exact gp
theorem rm_us.st {M M' : pg_M} {us : List sp_N} (h : rm_us M us) (h1 : rm_fr 0 M M') : rm_us M' us := h.fr (by rw [h1.1.1 207 (by simp)]) (fun j a b => h1.2 j (by omega))
theorem rm_S.fu {M M' : pg_M} {s : sp_N} (h : rm_S M 0 s) (h1 : rm_fu M M') : rm_S M' 0 s := h.off (fun j a b => h1.2.2.2 j (by omega))
theorem rm_L.fu {M M' : pg_M} {L : sp_N} {E : sp_E} (h : rm_L M L E) (h1 : rm_fu M M') : rm_L M' L E := h.keep h1.1 (by simp) (by simp) (by simp)
theorem rm_X.fu {M M' : pg_M} (h : rm_fu M M') : pg_fr rm_X M M' := rm_X.of h.1 (fun x hx => by simp at hx; omega)
theorem rm_X.th {M : pg_M} : pg_fr rm_X M (pg_si M 207 0 0) := pg_fr.si (by simp [rm_X])
theorem rm_G.th {M : pg_M} {G : sp_G} (hg : rm_G M G) : rm_G (pg_si M 207 0 0) G := hg.same (rm_same.f (by simp))
section PGR
variable {S : pg_S} {Λ : pg_L} {d h : Nat} {M : pg_M} {G : sp_G}
theorem rm_take {x : Int32} (hR : pg_isX11 Λ) (hg : rm_G M G) (hk : sp_okG G h) : pg_Ev S Λ YX11_take (d + 3) [.ref 207, .int x] M (fun r M' => ∃ v, r = some (.int v) ∧ (v = (sp_qtake G x).1 ∧ rm_G M' (sp_qtake G x).2 ∧ pg_fr rm_X M M')) := by
  have h6 := hk.l.1
  have hg0 := hg.th
  refine oX11_take (sX11_take_0 (Q0 := fun v M' => v = b2i (sp_ix (G.L 4 0) x).isSome ∧ M' = pg_si M 207 0 0) (Q1 := fun v M' => v = b2i (decide (¬ G.s 2 (x.toNatClampNeg) = 0)) ∧ M' = pg_si M 207 0 0) (Q2 := fun M' => rm_us M' (sp_push G.us G.s) ∧ rm_fu (pg_si M 207 0 0) M') hR (rm_isCloth hR hg0.l hk.l) ?_ ?_ ?_ ?_ ?_ ?_)
  · rintro x1 M1 ⟨rfl, rfl⟩ c
    have e : sp_ix (G.L 4 0) x = none := by rw [b2i_0] at c; simpa using c
    have e2 : sp_qtake G x = (0, G) := by unfold sp_qtake sp_take; rw [e]; rfl
    rw [e2]; exact ⟨_, rfl, rfl, hg0, rm_X.th⟩
  · rintro x1 M1 ⟨rfl, rfl⟩ c
    obtain ⟨i, hi⟩ : ∃ i, sp_ix (G.L 4 0) x = some i := Option.isSome_iff_exists.mp (ts_nf (fun q => c (b2i_0.mpr q)))
    obtain ⟨hc, rfl⟩ := (sp_ix_some (by omega)).mp hi
    rw [nI_clamp (by omega)]
    exact rm_isHung (b := 0) (by omega) (by omega) hR hg0.s hk.s.1
  · rintro x1 M1 ⟨rfl, rfl⟩ c x2 M2 ⟨rfl, rfl⟩ c2; exact rm_keeps hR hg0.s hg0.u
  · rintro x1 M1 ⟨rfl, rfl⟩ c x2 M2 ⟨rfl, rfl⟩ c2 M3 _
    obtain ⟨i, hi⟩ : ∃ i, sp_ix (G.L 4 0) x = some i := Option.isSome_iff_exists.mp (ts_nf (fun q => c (b2i_0.mpr q)))
    obtain ⟨hc, rfl⟩ := (sp_ix_some (by omega)).mp hi
    rw [show (14 : Int32) = nI 14 from rfl, nI_add]; exact vp_in_nI (by omega) (by decide)
  · rintro x1 M1 ⟨rfl, rfl⟩ c x2 M2 ⟨rfl, rfl⟩ c2 M3 ⟨u3, f3⟩
    obtain ⟨i, hi⟩ : ∃ i, sp_ix (G.L 4 0) x = some i := Option.isSome_iff_exists.mp (ts_nf (fun q => c (b2i_0.mpr q)))
    obtain ⟨hc, rfl⟩ := (sp_ix_some (by omega)).mp hi
    rw [nI_clamp (by omega), b2i_0, decide_eq_false_iff_not, Classical.not_not] at c2
    have e2 : sp_qtake G (nI i) = (1, G.did (sp_up G.s 2 i 0) (sp_push G.us G.s)) := by unfold sp_qtake sp_take; rw [hi]; simp [c2]
    rw [e2, show (14 : Int32) = nI 14 from rfl, nI_add, nI_clamp (by omega)]
    have hs3 := hg0.s.fu f3
    have hs4 := rm_S.w2 (c := i) (v := 0) (by omega) hs3
    rw [Nat.zero_add] at hs4
    have hf4 : rm_fr 0 M3 (pg_si M3 221 (14 + i) (nI 0)) := rm_fr.set (by omega) (by omega)
    exact ⟨_, rfl, rfl, hg0.did ((rm_samd.fu f3).trans (rm_samd.st hf4)) hs4 (u3.st hf4), (rm_X.th.trans (rm_X.fu f3)).trans (rm_X.st hf4)⟩
  · rintro x1 M1 ⟨rfl, rfl⟩ c x2 M2 ⟨rfl, rfl⟩ c2
    obtain ⟨i, hi⟩ : ∃ i, sp_ix (G.L 4 0) x = some i := Option.isSome_iff_exists.mp (ts_nf (fun q => c (b2i_0.mpr q)))
    obtain ⟨hc, rfl⟩ := (sp_ix_some (by omega)).mp hi
    rw [nI_clamp (by omega), b2i_0, decide_eq_false_iff_not, Classical.not_not] at c2
    have e2 : sp_qtake G (nI i) = (0, G) := by unfold sp_qtake sp_take; rw [hi]; simp [c2]
    rw [e2]; exact ⟨_, rfl, rfl, hg0, rm_X.th⟩
theorem rm_wash {x : Int32} (hR : pg_isX11 Λ) (hg : rm_G M G) (hk : sp_okG G h) : pg_Ev S Λ YX11_wash (d + 3) [.ref 207, .int x] M (fun r M' => ∃ v, r = some (.int v) ∧ (v = (sp_qwash G x).1 ∧ rm_G M' (sp_qwash G x).2 ∧ pg_fr rm_X M M')) := by
  have h6 := hk.l.1
  have hg0 := hg.th
  cases hi : sp_ix (G.L 4 0) x with
  | none =>
    have e2 : sp_qwash G x = (-1, G) := by unfold sp_qwash sp_wash; rw [hi]; rfl
    rw [e2]
    refine oX11_wash (sX11_wash_0 (Q0 := fun v M' => v = b2i (sp_ix (G.L 4 0) x).isSome ∧ M' = pg_si M 207 0 0) (Q1 := fun _ _ => True) (Q2 := fun _ => True) (Q3 := fun _ _ => True) hR (rm_isCloth hR hg0.l hk.l) ?_ ?_ ?_ ?_ ?_ ?_)
    · rintro x1 M1 ⟨rfl, rfl⟩ c; exact ⟨_, rfl, rfl, hg0, rm_X.th⟩
    all_goals (rintro x1 M1 ⟨rfl, rfl⟩ c; rw [hi] at c; exact absurd rfl c)
  | some i =>
    obtain ⟨hc, rfl⟩ := (sp_ix_some (by omega)).mp hi
    refine oX11_wash (sX11_wash_0 (Q0 := fun v M' => v = b2i (sp_ix (G.L 4 0) (nI i)).isSome ∧ M' = pg_si M 207 0 0) (Q1 := fun v M' => v = b2i (decide (¬ G.s 2 i = 0)) ∧ M' = pg_si M 207 0 0) (Q2 := fun M' => rm_us M' (sp_push G.us G.s) ∧ rm_fu (pg_si M 207 0 0) M') (Q3 := fun v M' => v = nI (G.s 1 i) ∧ ∃ M1, (rm_us M1 (sp_push G.us G.s) ∧ rm_fu (pg_si M 207 0 0) M1) ∧ rm_S M' 0 (sp_up (sp_up G.s 1 i 0) 0 i 9) ∧ rm_fr 0 M1 M') hR (rm_isCloth hR hg0.l hk.l) ?_ ?_ ?_ ?_ ?_ ?_)
    · rintro x1 M1 ⟨rfl, rfl⟩ c; rw [hi] at c; exact absurd c (show ¬ (1 : Int32) = 0 by decide)
    · rintro x1 M1 ⟨rfl, rfl⟩ c; exact rm_isHung (b := 0) (by omega) (by omega) hR hg0.s hk.s.1
    · rintro x1 M1 ⟨rfl, rfl⟩ c x2 M2 ⟨rfl, rfl⟩ c2; exact rm_keeps hR hg0.s hg0.u
    · rintro x1 M1 ⟨rfl, rfl⟩ c x2 M2 ⟨rfl, rfl⟩ c2 M3 ⟨u3, f3⟩
      exact pg_Ev.imp (fun r M' q => by obtain ⟨v, e1, e2, e3, e4⟩ := q; exact ⟨v, e1, e2, M3, ⟨u3, f3⟩, e3, e4⟩) (rm_washes (b := 0) (by omega) (by omega) hR (hg0.s.fu f3))
    · rintro x1 M1 ⟨rfl, rfl⟩ c x2 M2 ⟨rfl, rfl⟩ c2 M3 _ x4 M4 ⟨rfl, M5, ⟨u3, f3⟩, s4, hf4⟩
      rw [b2i_0, decide_eq_false_iff_not, Classical.not_not] at c2
      have e2 : sp_qwash G (nI i) = (nI (G.s 1 i), G.did (sp_up (sp_up G.s 1 i 0) 0 i 9) (sp_push G.us G.s)) := by unfold sp_qwash sp_wash; rw [hi]; simp [c2]
      rw [e2]
      exact ⟨_, rfl, rfl, hg0.did ((rm_samd.fu f3).trans (rm_samd.st hf4)) s4 (u3.st hf4), (rm_X.th.trans (rm_X.fu f3)).trans (rm_X.st hf4)⟩
    · rintro x1 M1 ⟨rfl, rfl⟩ c x2 M2 ⟨rfl, rfl⟩ c2
      rw [b2i_0, decide_eq_false_iff_not, Classical.not_not] at c2
      have e2 : sp_qwash G (nI i) = (-1, G) := by unfold sp_qwash sp_wash; rw [hi]; simp [c2]
      rw [e2]; exact ⟨_, rfl, rfl, hg0, rm_X.th⟩
theorem rm_buy {x : Int32} (hR : pg_isX11 Λ) (hg : rm_G M G) (hk : sp_okG G h) : pg_Ev S Λ YX11_buy (d + 3) [.ref 207, .int x] M (fun r M' => ∃ v, r = some (.int v) ∧ (v = (sp_qbuy G x).1 ∧ rm_G M' (sp_qbuy G x).2 ∧ pg_fr rm_X M M')) := by
  have h8 := hk.s.1.1
  have hg0 := hg.th
  have hw : (¬ x < 1 ∧ ¬ (9 : Int32) < x) ↔ ∃ g, 0 < g ∧ g < 10 ∧ x = nI g := by
    constructor
    · rintro ⟨a, b⟩
      have h0 : ¬ x < 0 := by rw [fa_lt] at a ⊢; have e1 : (1 : Int32).toInt = 1 := rfl; have e2 : (0 : Int32).toInt = 0 := rfl; omega
      obtain ⟨j, hj, rfl⟩ := nI_of h0
      rw [show (1 : Int32) = nI 1 from rfl, nI_ltI hj (by omega)] at a
      rw [show (9 : Int32) = nI 9 from rfl, nI_ltI (by omega) hj] at b
      exact ⟨j, by omega, by omega, rfl⟩
    · rintro ⟨g, h1, h2, rfl⟩
      rw [show (1 : Int32) = nI 1 from rfl, nI_ltI (by omega) (by omega), show (9 : Int32) = nI 9 from rfl, nI_ltI (by omega) (by omega)]
      omega
  refine oX11_buy (sX11_buy_0 (Q0 := fun v M' => v = b2i (decide (¬ x < 1 ∧ ¬ (9 : Int32) < x)) ∧ M' = pg_si M 207 0 0) (Q1 := fun M' => rm_us M' (sp_push G.us G.s) ∧ rm_fu (pg_si M 207 0 0) M') (Q2 := fun v M' => v = nI (G.s 4 0) ∧ ∃ M1 g, x = nI g ∧ (rm_us M1 (sp_push G.us G.s) ∧ rm_fu (pg_si M 207 0 0) M1) ∧ rm_S M' 0 (sp_up (sp_up G.s 3 (G.s 4 0) g) 4 0 (G.s 4 0 + 1)) ∧ rm_fr 0 M1 M' ∧ 0 < g ∧ g < 10 ∧ G.s 4 0 < 8) hR rm_within ?_ ?_ ?_ ?_ ?_)
  · rintro x1 M1 ⟨rfl, rfl⟩ c
    rw [b2i_0, decide_eq_false_iff_not, hw] at c
    have e2 : sp_qbuy G x = (-1, G) := by
      unfold sp_qbuy sp_buy
      cases hi : sp_ix 10 x with
      | none => rfl
      | some g =>
        obtain ⟨a, b⟩ := (sp_ix_some (by decide)).mp hi
        simp only [Option.bind_some]
        rw [if_neg (fun q => c ⟨g, q.1, a, b⟩)]
    rw [e2]; exact ⟨_, rfl, rfl, hg0, rm_X.th⟩
  · rintro x1 M1 ⟨rfl, rfl⟩ c c2; exact rm_keeps hR hg0.s hg0.u
  · rintro x1 M1 ⟨rfl, rfl⟩ c c2 M2 ⟨u2, f2⟩
    have c' : decide (¬ x < 1 ∧ ¬ (9 : Int32) < x) = true := ts_nf (fun q => c (b2i_0.mpr q))
    rw [decide_eq_true_eq, hw] at c'
    obtain ⟨g, g1, g2, rfl⟩ := c'
    rw [tn_1, show (pg_si M 207 0 0).1 221 1 = nI (G.s 4 0) from hg0.s.2.1, show (8 : Int32) = nI 8 from rfl, nI_eq (by omega) (by omega)] at c2
    exact pg_Ev.imp (fun r M' q => by obtain ⟨v, e1, e2, e3, e4⟩ := q; exact ⟨v, e1, e2, M2, g, rfl, ⟨u2, f2⟩, e3, e4, g1, g2, by omega⟩) (rm_buys (b := 0) (by omega) hR (hg0.s.fu f2) hk.s.1 (by omega))
  · rintro x1 M1 ⟨rfl, rfl⟩ c c2 M2 _ x3 M3 ⟨rfl, M5, g, rfl, ⟨u3, f3⟩, s4, hf4, g1, g2, g3⟩
    have e2 : sp_qbuy G (nI g) = (nI (G.s 4 0), G.did (sp_up (sp_up G.s 3 (G.s 4 0) g) 4 0 (G.s 4 0 + 1)) (sp_push G.us G.s)) := by
      unfold sp_qbuy sp_buy
      rw [sp_ix_nI (by decide) g2]
      simp only [Option.bind_some]
      rw [if_pos ⟨g1, g3⟩]
    rw [e2]
    exact ⟨_, rfl, rfl, hg0.did ((rm_samd.fu f3).trans (rm_samd.st hf4)) s4 (u3.st hf4), (rm_X.th.trans (rm_X.fu f3)).trans (rm_X.st hf4)⟩
  · rintro x1 M1 ⟨rfl, rfl⟩ c c2
    rw [tn_1, show (pg_si M 207 0 0).1 221 1 = nI (G.s 4 0) from hg0.s.2.1, show (8 : Int32) = nI 8 from rfl, nI_eq (by omega) (by omega)] at c2
    have e2 : sp_qbuy G x = (-1, G) := by
      unfold sp_qbuy sp_buy
      cases hi : sp_ix 10 x with
      | none => rfl
      | some g =>
        simp only [Option.bind_some]
        rw [if_neg (by omega)]
    rw [e2]; exact ⟨_, rfl, rfl, hg0, rm_X.th⟩
theorem rm_hang {x b : Int32} (hR : pg_isX11 Λ) (hg : rm_G M G) (hk : sp_okG G h) : pg_Ev S Λ YX11_hang (d + 4) [.ref 207, .int x, .int b] M (fun r M' => ∃ v, r = some (.int v) ∧ (v = (sp_qhang G x b).1 ∧ rm_G M' (sp_qhang G x b).2 ∧ pg_fr rm_X M M')) := by
  have h6 := hk.l.1
  have hg0 := hg.th
  have no : sp_hang G.L G.s x b = none → ∃ v, (some (Value.int (-1)) = some (Value.int v)) ∧ (v = (sp_qhang G x b).1 ∧ rm_G (pg_si M 207 0 0) (sp_qhang G x b).2 ∧ pg_fr rm_X M (pg_si M 207 0 0)) := fun q => by
    have e2 : sp_qhang G x b = (-1, G) := by unfold sp_qhang; rw [q]
    rw [e2]; exact ⟨_, rfl, rfl, hg0, rm_X.th⟩
  have hw : (¬ b < 1 ∧ ¬ (255 : Int32) < b) ↔ ∃ g, 0 < g ∧ g < 256 ∧ b = nI g := by
    constructor
    · rintro ⟨a, q⟩
      have h0 : ¬ b < 0 := by rw [fa_lt] at a ⊢; have e1 : (1 : Int32).toInt = 1 := rfl; have e2 : (0 : Int32).toInt = 0 := rfl; omega
      obtain ⟨j, hj, rfl⟩ := nI_of h0
      rw [show (1 : Int32) = nI 1 from rfl, nI_ltI hj (by omega)] at a
      rw [show (255 : Int32) = nI 255 from rfl, nI_ltI (by omega) hj] at q
      exact ⟨j, by omega, by omega, rfl⟩
    · rintro ⟨g, h1, h2, rfl⟩
      rw [show (1 : Int32) = nI 1 from rfl, nI_ltI (by omega) (by omega), show (255 : Int32) = nI 255 from rfl, nI_ltI (by omega) (by omega)]
      omega
  cases hi : sp_ix (G.L 4 0) x with
  | none =>
    have no' := no (by unfold sp_hang; rw [hi]; rfl)
    refine oX11_hang (sX11_hang_0 (Q0 := fun v M' => v = b2i (sp_ix (G.L 4 0) x).isSome ∧ M' = pg_si M 207 0 0) (Q1 := fun _ _ => True) (Q2 := fun _ _ => True) (Q3 := fun _ => True) (Q4 := fun _ _ => True) hR (rm_isCloth hR hg0.l hk.l) ?_ ?_ ?_ ?_ ?_ ?_ ?_ ?_ ?_)
    · rintro x1 M1 ⟨rfl, rfl⟩ c; exact no'
    all_goals (rintro x1 M1 ⟨rfl, rfl⟩ c; rw [hi] at c; exact absurd rfl c)
  | some i =>
    obtain ⟨hc, rfl⟩ := (sp_ix_some (by omega)).mp hi
    by_cases hb : ∃ g, 0 < g ∧ g < 256 ∧ b = nI g
    · obtain ⟨n, n0, n8, rfl⟩ := hb
      have hh : sp_hang G.L G.s (nI i) (nI n) = if sp_may G.L G.s i n then some (sp_up G.s 2 i n) else none := by unfold sp_hang; rw [hi, sp_ix_nI (by decide) n8]; rfl
      have hw' := hw.mpr ⟨n, n0, n8, rfl⟩
      refine oX11_hang (sX11_hang_0 (Q0 := fun v M' => v = b2i (sp_ix (G.L 4 0) (nI i)).isSome ∧ M' = pg_si M 207 0 0) (Q1 := fun v M' => v = b2i (decide (¬ nI n < 1 ∧ ¬ (255 : Int32) < nI n)) ∧ M' = pg_si M 207 0 0) (Q2 := fun v M' => v = b2i (sp_may G.L G.s i n) ∧ M' = pg_si M 207 0 0) (Q3 := fun M' => rm_us M' (sp_push G.us G.s) ∧ rm_fu (pg_si M 207 0 0) M') (Q4 := fun v M' => v = sp_left G.L (sp_up G.s 2 i n) ∧ ∃ M1, (rm_us M1 (sp_push G.us G.s) ∧ rm_fu (pg_si M 207 0 0) M1) ∧ M' = pg_si M1 221 (14 + i) (nI n)) hR (rm_isCloth hR hg0.l hk.l) ?_ ?_ ?_ ?_ ?_ ?_ ?_ ?_ ?_)
      · rintro x1 M1 ⟨rfl, rfl⟩ c; rw [hi] at c; exact absurd c (show ¬ (1 : Int32) = 0 by decide)
      · rintro x1 M1 ⟨rfl, rfl⟩ c; exact rm_within
      · rintro x1 M1 ⟨rfl, rfl⟩ c x2 M2 ⟨rfl, rfl⟩ c2
        rw [b2i_0, decide_eq_false_iff_not] at c2; exact absurd hw' c2
      · rintro x1 M1 ⟨rfl, rfl⟩ c x2 M2 ⟨rfl, rfl⟩ c2; exact rm_mayHang (b := 0) hc n8 n0 (by omega) hR hg0.s hg0.l hk.l hk.s.1
      · rintro x1 M1 ⟨rfl, rfl⟩ c x2 M2 ⟨rfl, rfl⟩ c2 x3 M3 ⟨rfl, rfl⟩ c3; exact rm_keeps hR hg0.s hg0.u
      · rintro x1 M1 ⟨rfl, rfl⟩ c x2 M2 ⟨rfl, rfl⟩ c2 x3 M3 ⟨rfl, rfl⟩ c3 M4 _
        rw [show (14 : Int32) = nI 14 from rfl, nI_add]; exact vp_in_nI (by omega) (by decide)
      · rintro x1 M1 ⟨rfl, rfl⟩ c x2 M2 ⟨rfl, rfl⟩ c2 x3 M3 ⟨rfl, rfl⟩ c3 M4 ⟨u4, f4⟩
        have c3' : sp_may G.L G.s i n = true := ts_nf (fun q => c3 (b2i_0.mpr q))
        rw [c3', if_pos rfl] at hh
        rw [show (14 : Int32) = nI 14 from rfl, nI_add, nI_clamp (by omega)]
        have hs4 := rm_S.w2 (c := i) (v := n) (by omega) (hg0.s.fu f4)
        rw [Nat.zero_add] at hs4
        have hf4 : rm_fr 0 M4 (pg_si M4 221 (14 + i) (nI n)) := rm_fr.set (by omega) (by omega)
        exact pg_Ev.imp (fun r M' q => by obtain ⟨v, e1, e2, e3⟩ := q; exact ⟨v, e1, e2, M4, ⟨u4, f4⟩, e3⟩) (rm_roomLeft (b := 0) (by omega) hR hs4 ((hg0.l.fu f4).fr hf4) hk.l (sp_okS.hang hk.l hk.s.1 hh))
      · rintro x1 M1 ⟨rfl, rfl⟩ c x2 M2 ⟨rfl, rfl⟩ c2 x3 M3 ⟨rfl, rfl⟩ c3 M4 _ x5 M5 ⟨rfl, M6, ⟨u4, f4⟩, rfl⟩
        have c3' : sp_may G.L G.s i n = true := ts_nf (fun q => c3 (b2i_0.mpr q))
        rw [c3', if_pos rfl] at hh
        have e2 : sp_qhang G (nI i) (nI n) = (sp_left G.L (sp_up G.s 2 i n), G.did (sp_up G.s 2 i n) (sp_push G.us G.s)) := by unfold sp_qhang; rw [hh]
        have hs4 := rm_S.w2 (c := i) (v := n) (by omega) (hg0.s.fu f4)
        rw [Nat.zero_add] at hs4
        have hf4 : rm_fr 0 M6 (pg_si M6 221 (14 + i) (nI n)) := rm_fr.set (by omega) (by omega)
        rw [e2]
        exact ⟨_, rfl, rfl, hg0.did ((rm_samd.fu f4).trans (rm_samd.st hf4)) hs4 (u4.st hf4), (rm_X.th.trans (rm_X.fu f4)).trans (rm_X.st hf4)⟩
      · rintro x1 M1 ⟨rfl, rfl⟩ c x2 M2 ⟨rfl, rfl⟩ c2 x3 M3 ⟨rfl, rfl⟩ c3
        rw [b2i_0] at c3
        exact no (by rw [hh, c3]; rfl)
    · have no' := no (by
        unfold sp_hang; rw [hi]
        cases hj : sp_ix 256 b with
        | none => rfl
        | some n =>
          obtain ⟨a, rfl⟩ := (sp_ix_some (by decide)).mp hj
          have n0 : n = 0 := by
            rcases Nat.eq_zero_or_pos n with q | q
            · exact q
            · exact absurd ⟨n, q, a, rfl⟩ hb
          subst n0
          have : sp_needs G.L i ≠ 0 := by unfold sp_needs; split <;> omega
          have hm : sp_may G.L G.s i 0 = false := by
            unfold sp_may
            rw [show sp_pc 0 = 0 from rfl]
            simp [Ne.symm this]
          simp [hm])
      refine oX11_hang (sX11_hang_0 (Q0 := fun v M' => v = b2i (sp_ix (G.L 4 0) (nI i)).isSome ∧ M' = pg_si M 207 0 0) (Q1 := fun v M' => v = b2i (decide (¬ b < 1 ∧ ¬ (255 : Int32) < b)) ∧ M' = pg_si M 207 0 0) (Q2 := fun _ _ => True) (Q3 := fun _ => True) (Q4 := fun _ _ => True) hR (rm_isCloth hR hg0.l hk.l) ?_ ?_ ?_ ?_ ?_ ?_ ?_ ?_ ?_)
      · rintro x1 M1 ⟨rfl, rfl⟩ c; exact no'
      · rintro x1 M1 ⟨rfl, rfl⟩ c; exact rm_within
      · rintro x1 M1 ⟨rfl, rfl⟩ c x2 M2 ⟨rfl, rfl⟩ c2; exact no'
      all_goals
        rintro x1 M1 ⟨rfl, rfl⟩ c x2 M2 ⟨rfl, rfl⟩ c2
        rw [show decide (¬ b < 1 ∧ ¬ (255 : Int32) < b) = false from decide_eq_false (fun q => hb (hw.mp q))] at c2
        exact absurd rfl c2
theorem rm_hour (hR : pg_isX11 Λ) (hh : h < 2 ^ 30) (hg : rm_G M G) (hk : sp_okG G h) : pg_Ev S Λ YX11_hour (d + 5) [.ref 207] M (fun r M' => ∃ v, r = some (.int v) ∧ (v = (sp_qhour G).1 ∧ rm_G M' (sp_qhour G).2 ∧ pg_fr rm_X M M')) := by
  have hg0 := hg.th
  refine oX11_hour (sX11_hour_0 (Q0 := fun M' => rm_us M' (sp_push G.us G.s) ∧ rm_fu (pg_si M 207 0 0) M') (Q1 := fun v M' => v = nI (sp_hour G.L G.E G.s 0).2 ∧ ∃ M1, (rm_us M1 (sp_push G.us G.s) ∧ rm_fu (pg_si M 207 0 0) M1) ∧ rm_S M' 0 (sp_hour G.L G.E G.s 0).1 ∧ rm_fr 0 M1 M') hR (pg_Ev.mono (by omega) (rm_keeps (d := 0) hR hg0.s hg0.u)) ?_ ?_)
  · rintro M1 ⟨u1, f1⟩
    have := rm_passes (S := S) (d := d) (b := 0) false hh (by omega) hR (hg0.s.fu f1) (hg0.l.fu f1) hk.l hk.s.1
    exact pg_Ev.imp (fun r M' q => by obtain ⟨v, e1, e2, e3, e4⟩ := q; exact ⟨v, e1, e2, M1, ⟨u1, f1⟩, e3, e4⟩) this
  · rintro M1 _ x2 M2 ⟨rfl, M5, ⟨u1, f1⟩, s2, f2⟩
    exact ⟨_, rfl, rfl, hg0.did ((rm_samd.fu f1).trans (rm_samd.st f2)) s2 (u1.st f2), (rm_X.th.trans (rm_X.fu f1)).trans (rm_X.st f2)⟩
theorem rm_undo (hR : pg_isX11 Λ) (hg : rm_G M G) : pg_Ev S Λ YX11_undo (d + 1) [.ref 207] M (fun r M' => ∃ v, r = some (.int v) ∧ (v = (sp_qundo G).1 ∧ rm_G M' (sp_qundo G).2 ∧ pg_fr rm_X M M')) := by
  have hg0 := hg.th
  obtain ⟨u1, u2, u3⟩ := hg0.u
  have hun : (pg_si M 207 0 0).1 207 23 = nI G.us.length := u1
  cases hl : G.us.getLast? with
  | none =>
    have hn : G.us = [] := List.getLast?_eq_none_iff.mp hl
    have e : sp_qundo G = (0, G) := by unfold sp_qundo; rw [hl]
    have e0 : (pg_si M 207 0 0).1 207 23 = 0 := by rw [hun, hn]; rfl
    rw [e]
    exact oX11_undo (sX11_undo_0 (Q0 := fun _ => True) hR (fun c => absurd e0 c) (fun c => absurd e0 c) (fun _ => ⟨_, rfl, rfl, hg0, rm_X.th⟩))
  | some t =>
    have hne : G.us ≠ [] := fun q => by rw [q] at hl; cases hl
    have hpos : 0 < G.us.length := List.length_pos_iff.mpr hne
    have hlast : G.us[G.us.length - 1]? = some t := by rw [List.getLast?_eq_getElem?] at hl; exact hl
    have e : sp_qundo G = (1, G.did t G.us.dropLast) := by unfold sp_qundo; rw [hl]
    have e1 : (pg_si M 207 0 0).1 207 23 - 1 = nI (G.us.length - 1) := by rw [hun, show G.us.length = (G.us.length - 1) + 1 by omega, nI_pred]; simp
    rw [e]
    refine oX11_undo (sX11_undo_0 (Q0 := fun M' => M' = rm_cp (pg_si (pg_si M 207 0 0) 207 23 (nI (G.us.length - 1))) (54 * (5 + (G.us.length - 1))) 0 28) hR (fun c => ?_) ?_ (fun c => ?_))
    · rw [e1, pg_si_at (pg_si M 207 0 0), pk_us, show (5 : Int32) = nI 5 from rfl, nI_add, show (54 : Int32) = nI 54 from rfl, pk_mul]
      exact rm_copies (t := 0) (n := 28) (by omega) (by omega) (by omega) hR
    · rintro _ M1 rfl
      refine ⟨_, rfl, rfl, ?_, ?_⟩
      · have hS : rm_S (pg_si (pg_si M 207 0 0) 207 23 (nI (G.us.length - 1))) (54 * (5 + (G.us.length - 1))) t := (u3 _ t hlast).off (fun j _ _ => by rw [pg_si_ne (by decide)])
        refine hg0.did ?_ (hS.cp (by omega)) ⟨?_, ?_, fun j t' hj => ?_⟩
        · refine ⟨fun b q => ?_, fun b q => rfl, fun j q => ?_, fun j a b => ?_⟩
          · rw [rm_cp_fr.1 b (by simp at q ⊢; omega), pg_si_ne (by simp at q; omega)]
          · rw [rm_cp_fr.1 207 (by simp), pg_si_at, pk_un (by simp at q; omega)]
          · rw [rm_cp_out (by omega), pg_si_ne (by decide)]
        · rw [rm_cp_fr.1 207 (by simp), pg_si_at, pk_us, List.length_dropLast]
        · rw [List.length_dropLast]; omega
        · have hj' : j < G.us.length - 1 := by have := (List.getElem?_eq_some_iff.mp hj).1; rw [List.length_dropLast] at this; exact this
          rw [List.getElem?_dropLast, if_pos hj'] at hj
          exact ((u3 j t' hj).off (fun j _ _ => by rw [pg_si_ne (by decide)])).cpo (by omega)
      · exact (rm_X.th.trans (pg_fr.si (by simp [rm_X]))).trans (rm_X.of rm_cp_fr (fun x hx => by simp at hx; omega))
    · rw [hun, ← nI_0, nI_eq (by omega) (by omega)] at c; omega
end PGR
