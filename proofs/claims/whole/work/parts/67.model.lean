/-! the reference: ask, decades -/
def sp_dcl (L s : sp_N) (g : Nat) : sp_N × Nat :=
  if s 2 (sp_rnd g / 65536 % L 4 0) = 0 then
    ((if sp_may L s (sp_rnd g / 65536 % L 4 0) (sp_ff (sp_free s) (sp_needs L (sp_rnd g / 65536 % L 4 0))) then sp_up s 2 (sp_rnd g / 65536 % L 4 0) (sp_ff (sp_free s) (sp_needs L (sp_rnd g / 65536 % L 4 0))) else s), sp_rnd g)
  else ((if sp_rnd (sp_rnd g) / 65536 % 4 = 0 then sp_up s 2 (sp_rnd g / 65536 % L 4 0) 0 else s), sp_rnd (sp_rnd g))
def sp_dch (L s : sp_N) (g : Nat) : sp_N × Nat := if L 4 0 = 0 then (s, g) else sp_dcl L s g
def sp_gu (L : sp_N) (g : Nat) : Nat := if g / 65536 % 10 < L 4 2 then 3 else 0
/-- so many hours by draws: the state, the last draw, the laws in all, the falls in all -/
def sp_dec (L : sp_N) (E : sp_E) (s : sp_N) (g : Nat) : Nat → sp_N × Nat × Nat × Nat
  | 0 => (s, g, 0, 0)
  | n + 1 => ((sp_hour L E (sp_dch L (sp_dec L E s g n).1 (sp_dec L E s g n).2.1).1 (sp_gu L (sp_rnd (sp_dch L (sp_dec L E s g n).1 (sp_dec L E s g n).2.1).2))).1,
      sp_rnd (sp_dch L (sp_dec L E s g n).1 (sp_dec L E s g n).2.1).2,
      (sp_dec L E s g n).2.2.1 + sp_pc (sp_laws L (sp_hour L E (sp_dch L (sp_dec L E s g n).1 (sp_dec L E s g n).2.1).1 (sp_gu L (sp_rnd (sp_dch L (sp_dec L E s g n).1 (sp_dec L E s g n).2.1).2))).1),
      (sp_dec L E s g n).2.2.2 + (sp_hour L E (sp_dch L (sp_dec L E s g n).1 (sp_dec L E s g n).2.1).1 (sp_gu L (sp_rnd (sp_dch L (sp_dec L E s g n).1 (sp_dec L E s g n).2.1).2))).2)
def sp_qdec (G : sp_G) (x y z : Int32) : Int32 := match sp_ix 10000 x, sp_ix 61 y, sp_ix 3 z with
  | some g, some n, some w => if n = 0 then -1 else if w = 0 then nI (sp_dec G.L G.E G.s g n).2.2.1 else if w = 1 then nI (sp_dec G.L G.E G.s g n).2.2.2 else nI (sp_grips (sp_dec G.L G.E G.s g n).1 255 0)
  | _, _, _ => -1
theorem sp_needs_or (L : sp_N) (c : Nat) : sp_needs L c = 2 ∨ sp_needs L c = 4 := by unfold sp_needs; split <;> simp
theorem sp_may0 {L s : sp_N} {c : Nat} : sp_may L s c 0 = false := by
  have : sp_needs L c ≠ 0 := by rcases sp_needs_or L c with h | h <;> omega
  unfold sp_may
  rw [show sp_pc 0 = 0 from rfl]
  simp [Ne.symm this]
theorem sp_gf_ff {L s : sp_N} {h c : Nat} (ho : sp_okS L s h) : sp_ff (sp_free s) (sp_needs L c) = if sp_pc (sp_gf (sp_free s) (sp_needs L c) 8).1 = sp_needs L c then (sp_gf (sp_free s) (sp_needs L c) 8).1 else 0 := by
  have hf := sp_free_lt ho
  rcases sp_needs_or L c with h | h <;> rw [h]
  · exact (sp_gf_ff2 _ hf).symm
  · exact (sp_gf_ff4 _ hf).symm
theorem sp_ff_lt {L s : sp_N} {h c : Nat} (ho : sp_okS L s h) : sp_ff (sp_free s) (sp_needs L c) < 256 := by
  rw [sp_gf_ff ho]
  have := (sp_gf_lt (sp_free s) (sp_needs L c) 8).1
  split <;> omega
theorem sp_okS.may {L s : sp_N} {E : sp_E} {h c n : Nat} (hk : sp_okL L E) (ho : sp_okS L s h) (hc : c < L 4 0) (hn : n < 256) (hm : sp_may L s c n = true) : sp_okS L (sp_up s 2 c n) h := by
  refine sp_okS.hang (x := nI c) (b := nI n) hk ho ?_
  unfold sp_hang
  rw [sp_ix_nI (by have := hk.1; omega) hc, sp_ix_nI (by decide) hn]
  simp [hm]
theorem sp_dch_ok {L s : sp_N} {E : sp_E} {h g : Nat} (hk : sp_okL L E) (ho : sp_okS L s h) (hg : g < 2 ^ 31) : sp_okS L (sp_dch L s g).1 h ∧ (sp_dch L s g).2 < 2 ^ 31 := by
  unfold sp_dch
  split
  · exact ⟨ho, hg⟩
  · rename_i h0
    have hc : sp_rnd g / 65536 % L 4 0 < L 4 0 := Nat.mod_lt _ (by omega)
    unfold sp_dcl
    split
    · refine ⟨?_, sp_rnd_lt _⟩
      simp only
      split
      · rename_i hm; exact sp_okS.may hk ho hc (sp_ff_lt ho) hm
      · exact ho
    · refine ⟨?_, sp_rnd_lt _⟩
      simp only
      split
      · exact ho.zero hc
      · exact ho
theorem sp_hour_le {L s : sp_N} {E : sp_E} {g : Nat} (hk : sp_okL L E) : (sp_hour L E s g).2 ≤ 6 := by
  have := sp_hits_le (L := L) (E := E) (s := s) (wind := sp_wind L (s 4 1) + g) (L 4 0)
  have h6 := hk.1
  unfold sp_hour
  simp only
  omega
theorem sp_dec_ok {L s : sp_N} {E : sp_E} {h g : Nat} (hk : sp_okL L E) (ho : sp_okS L s h) (hg : g < 2 ^ 31) : ∀ n, sp_okS L (sp_dec L E s g n).1 (h + n) ∧ (sp_dec L E s g n).2.1 < 2 ^ 31 ∧ (sp_dec L E s g n).2.2.1 ≤ 16 * n ∧ (sp_dec L E s g n).2.2.2 ≤ 6 * n := by
  intro n
  induction n with
  | zero => exact ⟨ho, hg, Nat.le_refl _, Nat.le_refl _⟩
  | succ n ih =>
    obtain ⟨i1, i2, i3, i4⟩ := ih
    simp only [sp_dec]
    have := sp_dch_ok hk i1 i2
    refine ⟨this.1.pass, sp_rnd_lt _, ?_, ?_⟩
    · have := sp_pc_le (sp_laws L (sp_hour L E (sp_dch L (sp_dec L E s g n).1 (sp_dec L E s g n).2.1).1 (sp_gu L (sp_rnd (sp_dch L (sp_dec L E s g n).1 (sp_dec L E s g n).2.1).2))).1)
      omega
    · have := sp_hour_le (s := (sp_dch L (sp_dec L E s g n).1 (sp_dec L E s g n).2.1).1) (g := sp_gu L (sp_rnd (sp_dch L (sp_dec L E s g n).1 (sp_dec L E s g n).2.1).2)) hk
      omega
/-- within the reference: the other trial, the draw and the workings of a law alone are changed -/
def rm_fo (M M' : pg_M) : Prop := pg_fr [207, 219, 220, 221] M M' ∧ M'.1 207 = M.1 207 ∧ ∀ j, (j < 1188 ∨ 1216 ≤ j) → M'.1 221 j = M.1 221 j
theorem rm_fo.rfl' {M : pg_M} : rm_fo M M := ⟨pg_fr.rfl', rfl, fun _ _ => rfl⟩
theorem rm_fo.trans {M M1 M2 : pg_M} (h : rm_fo M M1) (h2 : rm_fo M1 M2) : rm_fo M M2 := ⟨h.1.trans h2.1, h2.2.1.trans h.2.1, fun j hj => (h2.2.2 j hj).trans (h.2.2 j hj)⟩
theorem rm_fo.st {M M1 : pg_M} (h : rm_fr 1188 M M1) : rm_fo M M1 := ⟨h.1.mono (fun x hx => by simp at hx ⊢; omega), h.1.1 207 (by simp), fun j hj => h.2 j (by omega)⟩
theorem rm_fo.dr {M : pg_M} {v : Int64} : rm_fo M (pg_sj M 207 37 v) := ⟨pg_fr.sj (by simp), rfl, fun _ _ => rfl⟩
theorem rm_fo.same {M M1 : pg_M} (h : rm_fo M M1) : rm_same M M1 := ⟨fun b q => h.1.1 b (by simp at q ⊢; omega), fun b q => h.1.2.1 b (by simp at q ⊢; omega), fun j _ => by rw [h.2.1], fun j hj => h.2.2 j (by omega)⟩
theorem rm_fo.X {M M1 : pg_M} (h : rm_fo M M1) : pg_fr rm_X M M1 := rm_X.of h.1 (fun x hx => by simp at hx; omega)
section PGR
variable {S : pg_S} {Λ : pg_L} {d h : Nat} {M : pg_M} {G : sp_G} {L s : sp_N} {E : sp_E}
theorem rm_L.fo {M' : pg_M} (hl : rm_L M L E) (h : rm_fo M M') : rm_L M' L E := hl.keep h.1 (by simp) (by simp) (by simp)
theorem rm_draw {g m : Nat} (hg : g < 2 ^ 31) (hm : 0 < m) (hm9 : m < 2 ^ 31) (hR : pg_isX11 Λ) (hd : M.2.1 207 37 = lN g) : pg_Ev S Λ YX11_draw d [.ref 207, .int (nI m)] M (fun r M' => ∃ v, r = some (.int v) ∧ (v = nI (sp_rnd g / 65536 % m) ∧ M' = pg_sj M 207 37 (lN (sp_rnd g)))) := by
  refine oX11_draw (sX11_draw_0 hR (fun N1 _ => by rw [lo_of hm9]; exact lo_ne hm (by omega)) (fun N1 hN => ?_))
  rw [hd, sp_rnd_L hg] at hN
  have e : N1.2.1 207 37 = lN (sp_rnd g) := by rw [hN, pg_sj_at]; simp [vp_updL]
  exact ⟨_, rfl, by rw [e, sp_rnd_v (sp_rnd_lt g) hm9], hN⟩
theorem rm_drawsCloth {g : Nat} (hg : g < 2 ^ 31) (h0 : 0 < L 4 0) (hR : pg_isX11 Λ) (hd : M.2.1 207 37 = lN g) (hs : rm_S M 1188 s) (hl : rm_L M L E) (hk : sp_okL L E) (ho : sp_okS L s h) : pg_Ev S Λ YX11_drawsCloth (d + 4) [.ref 207] M (fun r M' => r = none ∧ (rm_S M' 1188 (sp_dcl L s g).1 ∧ M'.2.1 207 37 = lN (sp_dcl L s g).2 ∧ rm_fo M M')) := by
  have h6 := hk.1
  have hc : sp_rnd g / 65536 % L 4 0 < L 4 0 := Nat.mod_lt _ h0
  have hf := sp_gf_ff (L := L) (c := sp_rnd g / 65536 % L 4 0) ho
  unfold sp_dcl
  generalize hcc : sp_rnd g / 65536 % L 4 0 = c at hc hf ⊢
  have hg8 := sp_gf_lt (sp_free s) (sp_needs L c) 8
  have hn4 : 2 ≤ sp_needs L c ∧ sp_needs L c ≤ 4 := by rcases sp_needs_or L c with h | h <;> omega
  have hpl := sp_pc_le (sp_gf (sp_free s) (sp_needs L c) 8).1
  generalize hgf : (sp_gf (sp_free s) (sp_needs L c) 8).1 = f at hf hg8 hpl
  have f1 : rm_fo M (pg_sj M 207 37 (lN (sp_rnd g))) := rm_fo.dr
  have hs1 : rm_S (pg_sj M 207 37 (lN (sp_rnd g))) 1188 s := hs.off (fun _ _ _ => rfl)
  have hl1 := hl.fo f1
  have d1 : (pg_sj M 207 37 (lN (sp_rnd g))).2.1 207 37 = lN (sp_rnd g) := by rw [pg_sj_at]; simp [vp_updL]
  have d2 : (pg_sj (pg_sj M 207 37 (lN (sp_rnd g))) 207 37 (lN (sp_rnd (sp_rnd g)))).2.1 207 37 = lN (sp_rnd (sp_rnd g)) := by rw [pg_sj_at]; simp [vp_updL]
  have hx : (1202 : Int32) + nI c = nI (1188 + 14 + c) := by rw [show (1202 : Int32) = nI 1202 from rfl, nI_add]
  refine oX11_drawsCloth (sX11_drawsCloth_0 (Q0 := fun v M' => v = nI (L 4 0) ∧ M' = M) (Q1 := fun v M' => v = nI c ∧ M' = pg_sj M 207 37 (lN (sp_rnd g))) (Q2 := fun v M' => v = b2i (decide (¬ s 2 c = 0)) ∧ M' = pg_sj M 207 37 (lN (sp_rnd g))) (Q3 := fun v M' => v = nI (sp_needs L c) ∧ M' = pg_sj M 207 37 (lN (sp_rnd g))) (Q4 := fun v M' => v = nI f ∧ M' = pg_sj M 207 37 (lN (sp_rnd g))) (Q5 := fun v M' => v = nI (sp_pc f) ∧ M' = pg_sj M 207 37 (lN (sp_rnd g))) (Q6 := fun v M' => v = nI (sp_needs L c) ∧ M' = pg_sj M 207 37 (lN (sp_rnd g))) (Q7 := fun v M' => v = b2i (sp_may L s c f) ∧ M' = pg_sj M 207 37 (lN (sp_rnd g))) (Q8 := fun v M' => v = nI (sp_rnd (sp_rnd g) / 65536 % 4) ∧ M' = pg_sj (pg_sj M 207 37 (lN (sp_rnd g))) 207 37 (lN (sp_rnd (sp_rnd g)))) hR (rm_cloths hR hl) ?_ ?_ ?_ ?_ ?_ ?_ ?_ ?_ ?_ ?_ ?_ ?_ ?_ ?_ ?_ ?_)
  · rintro x1 M1 ⟨rfl, rfl⟩
    have := rm_draw (S := S) (d := d + 3) hg h0 (by omega) hR hd
    rw [hcc] at this
    exact this
  all_goals rintro x1 M1 ⟨rfl, rfl⟩ x2 M2 ⟨rfl, rfl⟩
  · exact rm_isHung (b := 1188) (by omega) (by omega) hR hs1 ho
  all_goals rintro x3 M3 ⟨rfl, rfl⟩ c3
  all_goals try rw [b2i_0, decide_eq_false_iff_not, Classical.not_not] at c3
  · exact pg_Ev.mono (by omega) (rm_needs (d := 0) hc hR hl1 hk)
  · rintro x4 M4 ⟨rfl, rfl⟩
    have := rm_firstFree (S := S) (d := d) (b := 1188) (many := sp_needs L c) (by omega) (by omega) hR hs1 hl1 hk ho
    rw [hgf] at this
    exact this
  · rintro x4 M4 ⟨rfl, rfl⟩ x5 M5 ⟨rfl, rfl⟩; exact rm_bits (by omega)
  · rintro x4 M4 ⟨rfl, rfl⟩ x5 M5 ⟨rfl, rfl⟩ x6 M6 ⟨rfl, rfl⟩; exact pg_Ev.mono (by omega) (rm_needs (d := 0) hc hR hl1 hk)
  · rintro x4 M4 ⟨rfl, rfl⟩ x5 M5 ⟨rfl, rfl⟩ x6 M6 ⟨rfl, rfl⟩ x7 M7 ⟨rfl, rfl⟩ c7
    rw [nI_eq (by omega) (by omega)] at c7
    rw [if_neg c7] at hf
    rw [if_pos c3, hf, sp_may0]
    exact ⟨rfl, hs1, d1, f1⟩
  · rintro x4 M4 ⟨rfl, rfl⟩ x5 M5 ⟨rfl, rfl⟩ x6 M6 ⟨rfl, rfl⟩ x7 M7 ⟨rfl, rfl⟩ c7
    rw [nI_eq (by omega) (by omega)] at c7
    have hf0 : 0 < f := by
      rcases Nat.eq_zero_or_pos f with q | q
      · subst q; rw [show sp_pc 0 = 0 from rfl] at c7; omega
      · exact q
    exact rm_mayHang (b := 1188) hc (by omega) hf0 (by omega) hR hs1 hl1 hk ho
  · rintro x4 M4 ⟨rfl, rfl⟩ x5 M5 ⟨rfl, rfl⟩ x6 M6 ⟨rfl, rfl⟩ x7 M7 ⟨rfl, rfl⟩ c7 x8 M8 ⟨rfl, rfl⟩ c8
    rw [nI_eq (by omega) (by omega)] at c7
    rw [if_pos c7] at hf
    rw [if_pos c3, hf, b2i_0.mp c8]
    exact ⟨rfl, hs1, d1, f1⟩
  · rintro x4 M4 ⟨rfl, rfl⟩ x5 M5 ⟨rfl, rfl⟩ x6 M6 ⟨rfl, rfl⟩ x7 M7 ⟨rfl, rfl⟩ c7 x8 M8 ⟨rfl, rfl⟩ c8
    rw [hx]; exact vp_in_nI (by omega) (by decide)
  · rintro x4 M4 ⟨rfl, rfl⟩ x5 M5 ⟨rfl, rfl⟩ x6 M6 ⟨rfl, rfl⟩ x7 M7 ⟨rfl, rfl⟩ c7 x8 M8 ⟨rfl, rfl⟩ c8
    rw [nI_eq (by omega) (by omega)] at c7
    rw [if_pos c7] at hf
    rw [if_pos c3, hf, ts_nf (fun q => c8 (b2i_0.mpr q)), hx, nI_clamp (by omega)]
    exact ⟨rfl, rm_S.w2 (by omega) hs1, d1, f1.trans (rm_fo.st (rm_fr.set (by omega) (by omega)))⟩
  all_goals have c3' : ¬ s 2 c = 0 := c3
  · exact rm_draw (m := 4) (sp_rnd_lt g) (by decide) (by decide) hR d1
  all_goals rintro x9 M9 ⟨rfl, rfl⟩ c9
  all_goals try rw [← nI_0, nI_eq (by have := Nat.mod_lt (sp_rnd (sp_rnd g) / 65536) (show 4 > 0 by decide); omega) (by omega)] at c9
  · rw [hx]; exact vp_in_nI (by omega) (by decide)
  · rw [if_neg c3', if_neg c9, hx, nI_clamp (by omega)]
    have hs2 : rm_S (pg_sj (pg_sj M1 207 37 (lN (sp_rnd g))) 207 37 (lN (sp_rnd (sp_rnd g)))) 1188 s := hs1.off (fun _ _ _ => rfl)
    refine ⟨rfl, ?_, d2, (f1.trans rm_fo.dr).trans (rm_fo.st (rm_fr.set (by omega) (by omega)))⟩
    refine hs2.off (fun j _ _ => ?_)
    rw [pg_si_at]
    by_cases q : j = 1188 + 14 + c
    · subst q; rw [pk_us]
    · rw [pk_un q]
  · rw [hx]; exact vp_in_nI (by omega) (by decide)
  · rw [if_neg c3', if_pos c9, hx, nI_clamp (by omega)]
    have hs2 : rm_S (pg_sj (pg_sj M1 207 37 (lN (sp_rnd g))) 207 37 (lN (sp_rnd (sp_rnd g)))) 1188 s := hs1.off (fun _ _ _ => rfl)
    exact ⟨rfl, rm_S.w2 (v := 0) (by omega) hs2, d2, (f1.trans rm_fo.dr).trans (rm_fo.st (rm_fr.set (by omega) (by omega)))⟩
theorem rm_decades {x y z : Int32} (hh : h < 2 ^ 29) (hR : pg_isX11 Λ) (hg : rm_G M G) (hk : sp_okG G h) : pg_Ev S Λ YX11_decades (d + 5) [.ref 207, .int x, .int y, .int z] M (fun r M' => ∃ v, r = some (.int v) ∧ (v = sp_qdec G x y z ∧ rm_G M' G ∧ pg_fr rm_X M M')) := by
  have hg0 := hg.th
  have hl := hk.l
  have h6 := hl.1
  have h10 := hl.2.2.2.1
  have wx : decide (¬ x < 0 ∧ ¬ (9999 : Int32) < x) = (sp_ix 10000 x).isSome := sp_ix_win (n := 9999) (by decide) rfl
  have wz : decide (¬ z < 0 ∧ ¬ (2 : Int32) < z) = (sp_ix 3 z).isSome := sp_ix_win (n := 2) (by decide) rfl
  have wy : (¬ y < 1 ∧ ¬ (60 : Int32) < y) ↔ ∃ n, 0 < n ∧ n < 61 ∧ y = nI n := by
    constructor
    · rintro ⟨a, q⟩
      have h0 : ¬ y < 0 := by rw [fa_lt] at a ⊢; have e1 : (1 : Int32).toInt = 1 := rfl; have e2 : (0 : Int32).toInt = 0 := rfl; omega
      obtain ⟨j, hj, rfl⟩ := nI_of h0
      rw [show (1 : Int32) = nI 1 from rfl, nI_ltI hj (by omega)] at a
      rw [show (60 : Int32) = nI 60 from rfl, nI_ltI (by omega) hj] at q
      exact ⟨j, by omega, by omega, rfl⟩
    · rintro ⟨g, h1, h2, rfl⟩
      rw [show (1 : Int32) = nI 1 from rfl, nI_ltI (by omega) (by omega), show (60 : Int32) = nI 60 from rfl, nI_ltI (by omega) (by omega)]
      omega
  have no : sp_qdec G x y z = -1 → ∃ v, (some (Value.int (-1)) = some (Value.int v)) ∧ (v = sp_qdec G x y z ∧ rm_G (pg_si M 207 0 0) G ∧ pg_fr rm_X M (pg_si M 207 0 0)) := fun q => by
    rw [q]; exact ⟨_, rfl, rfl, hg0, rm_X.th⟩
  refine oX11_decades (sX11_decades_0 (Q0 := fun v M' => v = b2i (decide (¬ x < 0 ∧ ¬ (9999 : Int32) < x)) ∧ M' = pg_si M 207 0 0) (Q1 := fun v M' => v = b2i (decide (¬ y < 1 ∧ ¬ (60 : Int32) < y)) ∧ M' = pg_si M 207 0 0) (Q2 := fun v M' => v = b2i (decide (¬ z < 0 ∧ ¬ (2 : Int32) < z)) ∧ M' = pg_si M 207 0 0) (Q3 := fun M' => M' = rm_cp (pg_si M 207 0 0) 0 1188 28) hR rm_within ?_ ?_ ?_ ?_ ?_ ?_ ?_)
  · rintro x1 M1 ⟨rfl, rfl⟩ c
    rw [wx, b2i_0] at c
    have e : sp_ix 10000 x = none := by simpa using c
    exact no (by unfold sp_qdec; rw [e])
  · rintro x1 M1 ⟨rfl, rfl⟩ c; exact rm_within
  · rintro x1 M1 ⟨rfl, rfl⟩ c x2 M2 ⟨rfl, rfl⟩ c2
    rw [b2i_0, decide_eq_false_iff_not, wy] at c2
    refine no ?_
    unfold sp_qdec
    cases sp_ix 10000 x with
    | none => rfl
    | some g =>
      cases hy : sp_ix 61 y with
      | none => rfl
      | some n =>
        cases sp_ix 3 z with
        | none => rfl
        | some w =>
          obtain ⟨a, b⟩ := (sp_ix_some (by decide)).mp hy
          simp only
          rw [if_pos]
          rcases Nat.eq_zero_or_pos n with q | q
          · exact q
          · exact absurd ⟨n, q, a, b⟩ c2
  · rintro x1 M1 ⟨rfl, rfl⟩ c x2 M2 ⟨rfl, rfl⟩ c2; exact rm_within
  · rintro x1 M1 ⟨rfl, rfl⟩ c x2 M2 ⟨rfl, rfl⟩ c2 x3 M3 ⟨rfl, rfl⟩ c3; exact rm_copies (f := 0) (t := 1188) (n := 28) (by omega) (by omega) (by omega) hR
  · rintro x1 M1 ⟨rfl, rfl⟩ c x2 M2 ⟨rfl, rfl⟩ c2 x3 M3 ⟨rfl, rfl⟩ c3 M4 rfl
    have cx : (sp_ix 10000 x).isSome = true := by rw [← wx]; exact ts_nf (fun q => c (b2i_0.mpr q))
    have cz : (sp_ix 3 z).isSome = true := by rw [← wz]; exact ts_nf (fun q => c3 (b2i_0.mpr q))
    have cy : decide (¬ y < 1 ∧ ¬ (60 : Int32) < y) = true := ts_nf (fun q => c2 (b2i_0.mpr q))
    rw [decide_eq_true_eq, wy] at cy
    obtain ⟨g, hgx⟩ := Option.isSome_iff_exists.mp cx
    obtain ⟨w, hwz⟩ := Option.isSome_iff_exists.mp cz
    obtain ⟨n, n0, n1, rfl⟩ := cy
    obtain ⟨b1, rfl⟩ := (sp_ix_some (by decide)).mp hgx
    obtain ⟨b3, rfl⟩ := (sp_ix_some (by decide)).mp hwz
    have hq : sp_qdec G (nI g) (nI n) (nI w) = if w = 0 then nI (sp_dec G.L G.E G.s g n).2.2.1 else if w = 1 then nI (sp_dec G.L G.E G.s g n).2.2.2 else nI (sp_grips (sp_dec G.L G.E G.s g n).1 255 0) := by
      unfold sp_qdec; rw [hgx, hwz, sp_ix_nI (by decide) n1]; simp only; rw [if_neg (by omega)]
    have ok := sp_dec_ok (E := G.E) hl hk.s.1 (show g < 2 ^ 31 by omega)
    have hf0 : rm_fo (pg_si M 207 0 0) (pg_sj (rm_cp (pg_si M 207 0 0) 0 1188 28) 207 37 (lN g)) := rm_fo.trans ⟨rm_cp_fr.mono (fun x hx => by simp at hx ⊢; omega), rm_cp_fr.1 207 (by simp), fun j hj => rm_cp_out (by omega)⟩ rm_fo.dr
    rw [lo_of (by omega)]
    refine pg_loop (fun i (q : Int32 × Int32 × pg_M) => pg_At S Λ YX11_decades (d + 5) 62 [(0, .ref 207), (2, .int (nI n)), (3, .int (nI w)), (4, .int q.1), (5, .int q.2.1), (6, .int (nI i))] [] q.2.2 _) (fun i q => q.1 = nI (sp_dec G.L G.E G.s g i).2.2.1 ∧ q.2.1 = nI (sp_dec G.L G.E G.s g i).2.2.2 ∧ rm_S q.2.2 1188 (sp_dec G.L G.E G.s g i).1 ∧ q.2.2.2.1 207 37 = lN (sp_dec G.L G.E G.s g i).2.1 ∧ rm_G q.2.2 G ∧ pg_fr rm_X M q.2.2) n ?_ ?_ 0 (0, 0, _) (Nat.zero_le _) ⟨rfl, rfl, (hg0.s.cp (t := 1188) (n := 28) (by omega)).off (fun _ _ _ => rfl), by show (pg_sj (rm_cp (pg_si M 207 0 0) 0 1188 28) 207 37 (lN g)).2.1 207 37 = lN g; rw [pg_sj_at]; simp [vp_updL], hg0.same hf0.same, rm_X.th.trans hf0.X⟩
    · rintro ⟨v4, v5, m⟩ ⟨rfl, rfl, m3, m4, m5, m6⟩
      have c9 : nI n ≤ nI n := nI_le (Nat.le_refl _) (by omega)
      have w0 : nI w = 0 ↔ w = 0 := by rw [← nI_0, nI_eq (by omega) (by omega)]
      have w1 : nI w = 1 ↔ w = 1 := by rw [show (1 : Int32) = nI 1 from rfl, nI_eq (by omega) (by omega)]
      refine sX11_decades_62 (Q0 := fun v M' => v = nI (sp_grips (sp_dec G.L G.E G.s g n).1 255 0) ∧ M' = m) (Q1 := fun _ _ => True) (Q2 := fun _ _ => True) (Q3 := fun _ _ => True) (Q4 := fun _ _ => True) (Q5 := fun _ _ => True) (Q6 := fun _ _ => True) (Q7 := fun _ _ => True) (Q8 := fun _ _ => True) (Q9 := fun _ => True) (Q10 := fun _ _ => True) (Q11 := fun _ _ => True) (Q12 := fun _ _ => True) (Q13 := fun _ _ => True) (Q14 := fun _ _ => True) (Q15 := fun _ _ => True) (Q16 := fun _ _ => True) hR (fun _ _ _ => ?_) ?_ (fun _ n0 n1 => ?_) (fun _ n0 => ?_) (fun c => absurd c9 c) (fun c => absurd c9 c) (fun c => absurd c9 c) (fun c => absurd c9 c) (fun c => absurd c9 c) (fun c => absurd c9 c) (fun c => absurd c9 c) (fun c => absurd c9 c) (fun c => absurd c9 c) (fun c => absurd c9 c) (fun c => absurd c9 c) (fun c => absurd c9 c) (fun c => absurd c9 c) (fun c => absurd c9 c) (fun c => absurd c9 c) (fun c => absurd c9 c) (fun c => absurd c9 c) (fun c => absurd c9 c) (fun c => absurd c9 c) (fun c => absurd c9 c)
      · exact rm_gripsOf (b := 1188) (bits := 255) (by decide) (by omega) hR m3 (ok n).1
      · rintro _ n0 n1 x1 M1 ⟨rfl, rfl⟩
        rw [w0] at n0; rw [w1] at n1
        exact ⟨_, rfl, by rw [hq, if_neg n0, if_neg n1], m5, m6⟩
      · rw [w0] at n0; rw [w1] at n1
        exact ⟨_, rfl, by rw [hq, if_neg n0, if_pos n1], m5, m6⟩
      · rw [w0] at n0
        exact ⟨_, rfl, by rw [hq, if_pos n0], m5, m6⟩
    · rintro i ⟨v4, v5, m⟩ hi ⟨rfl, rfl, m3, m4, m5, m6⟩ ih
      have c9 : ¬ nI n ≤ nI i := nI_ge hi (by omega)
      obtain ⟨ok1, ok2, ok3, ok4⟩ := ok i
      obtain ⟨kq1, kq2⟩ := sp_dch_ok hl ok1 ok2
      have hstep : sp_dec G.L G.E G.s g (i + 1) = ((sp_hour G.L G.E (sp_dch G.L (sp_dec G.L G.E G.s g i).1 (sp_dec G.L G.E G.s g i).2.1).1 (sp_gu G.L (sp_rnd (sp_dch G.L (sp_dec G.L G.E G.s g i).1 (sp_dec G.L G.E G.s g i).2.1).2))).1, sp_rnd (sp_dch G.L (sp_dec G.L G.E G.s g i).1 (sp_dec G.L G.E G.s g i).2.1).2, (sp_dec G.L G.E G.s g i).2.2.1 + sp_pc (sp_laws G.L (sp_hour G.L G.E (sp_dch G.L (sp_dec G.L G.E G.s g i).1 (sp_dec G.L G.E G.s g i).2.1).1 (sp_gu G.L (sp_rnd (sp_dch G.L (sp_dec G.L G.E G.s g i).1 (sp_dec G.L G.E G.s g i).2.1).2))).1), (sp_dec G.L G.E G.s g i).2.2.2 + (sp_hour G.L G.E (sp_dch G.L (sp_dec G.L G.E G.s g i).1 (sp_dec G.L G.E G.s g i).2.1).1 (sp_gu G.L (sp_rnd (sp_dch G.L (sp_dec G.L G.E G.s g i).1 (sp_dec G.L G.E G.s g i).2.1).2))).2) := rfl
      simp only at m3 m4 m5 m6 ⊢
      have d0 : G.L 4 0 = 0 → sp_dch G.L (sp_dec G.L G.E G.s g i).1 (sp_dec G.L G.E G.s g i).2.1 = ((sp_dec G.L G.E G.s g i).1, (sp_dec G.L G.E G.s g i).2.1) := fun q => by unfold sp_dch; rw [if_pos q]
      have d1 : ¬ G.L 4 0 = 0 → sp_dch G.L (sp_dec G.L G.E G.s g i).1 (sp_dec G.L G.E G.s g i).2.1 = sp_dcl G.L (sp_dec G.L G.E G.s g i).1 (sp_dec G.L G.E G.s g i).2.1 := fun q => by unfold sp_dch; rw [if_neg q]
      generalize sp_dec G.L G.E G.s g i = D at *
      generalize sp_dch G.L D.1 D.2.1 = q1 at *
      have hg10 : sp_rnd q1.2 / 65536 % 10 < 10 := Nat.mod_lt _ (by decide)
      have gu0 : nI (G.L 4 2) ≤ nI (sp_rnd q1.2 / 65536 % 10) → sp_gu G.L (sp_rnd q1.2) = 0 := fun q => by
        rw [nI_leI (by omega) (by omega)] at q; unfold sp_gu; rw [if_neg (by omega)]
      have gu3 : ¬ nI (G.L 4 2) ≤ nI (sp_rnd q1.2 / 65536 % 10) → sp_gu G.L (sp_rnd q1.2) = 3 := fun q => by
        rw [nI_leI (by omega) (by omega)] at q; unfold sp_gu; rw [if_pos (by omega)]
      have okh : sp_okS G.L (sp_hour G.L G.E q1.1 (sp_gu G.L (sp_rnd q1.2))).1 (h + i + 1) := kq1.pass
      have h4 : ∀ N : pg_M, rm_fo m N → N.1 213 (4 : Int32).toNatClampNeg = nI (G.L 4 2) := fun N f => (m5.l.fo f).2.2.2.2.1
      have sj : ∀ (N : pg_M), rm_S N 1188 q1.1 → rm_fo m N → rm_S (pg_sj N 207 37 (lN (sp_rnd q1.2))) 1188 q1.1 ∧ (pg_sj N 207 37 (lN (sp_rnd q1.2))).2.1 207 37 = lN (sp_rnd q1.2) ∧ rm_fo m (pg_sj N 207 37 (lN (sp_rnd q1.2))) := fun N a b => ⟨a.off (fun _ _ _ => rfl), by rw [pg_sj_at]; simp [vp_updL], b.trans rm_fo.dr⟩
      have drw : ∀ (N : pg_M), rm_S N 1188 q1.1 → N.2.1 207 37 = lN q1.2 → rm_fo m N → pg_Ev S Λ YX11_draw (d + 4) [.ref 207, .int 10] N (fun r M' => ∃ v, r = some (.int v) ∧ (v = nI (sp_rnd q1.2 / 65536 % 10) ∧ rm_S M' 1188 q1.1 ∧ M'.2.1 207 37 = lN (sp_rnd q1.2) ∧ rm_fo m M')) := fun N a b c =>
        pg_Ev.imp (fun r M' q => by obtain ⟨v, e1, e2, rfl⟩ := q; exact ⟨v, e1, e2, sj N a c⟩) (rm_draw (m := 10) kq2 (by decide) (by decide) hR b)
      have pss : ∀ (N : pg_M) (b : Bool), sp_gu G.L (sp_rnd q1.2) = (if b then 3 else 0) → rm_S N 1188 q1.1 → N.2.1 207 37 = lN (sp_rnd q1.2) → rm_fo m N → pg_Ev S Λ YX11_passes (d + 4) [.ref 207, .int 1188, .int (b2i b)] N (fun r M' => ∃ v, r = some (.int v) ∧ (v = nI (sp_hour G.L G.E q1.1 (sp_gu G.L (sp_rnd q1.2))).2 ∧ rm_S M' 1188 (sp_hour G.L G.E q1.1 (sp_gu G.L (sp_rnd q1.2))).1 ∧ M'.2.1 207 37 = lN (sp_rnd q1.2) ∧ rm_fo m M')) := fun N b e a1 a2 a3 => by
        rw [e]
        exact pg_Ev.imp (fun r M' q => by obtain ⟨v, e1, e2, e3, e4⟩ := q; exact ⟨v, e1, e2, e3, by rw [e4.1.2.1 207 (by simp)]; exact a2, a3.trans (rm_fo.st e4)⟩) (rm_passes (d := d) (b := 1188) (h := h + i) b (by omega) (by omega) hR a1 (m5.l.fo a3) hl kq1)
      have lws : ∀ (N : pg_M), rm_S N 1188 (sp_hour G.L G.E q1.1 (sp_gu G.L (sp_rnd q1.2))).1 → N.2.1 207 37 = lN (sp_rnd q1.2) → rm_fo m N → pg_Ev S Λ YX11_lawsOf (d + 4) [.ref 207, .int 1188] N (fun r M' => ∃ v, r = some (.int v) ∧ (v = nI (sp_laws G.L (sp_hour G.L G.E q1.1 (sp_gu G.L (sp_rnd q1.2))).1) ∧ rm_S M' 1188 (sp_hour G.L G.E q1.1 (sp_gu G.L (sp_rnd q1.2))).1 ∧ M'.2.1 207 37 = lN (sp_rnd q1.2) ∧ rm_fo m M')) := fun N a1 a2 a3 =>
        pg_Ev.imp (fun r M' q => by obtain ⟨v, e1, e2, rfl⟩ := q; exact ⟨v, e1, e2, a1, a2, a3⟩) (pg_Ev.mono (by omega) (rm_lawsOf (d := 0) (b := 1188) (by omega) hR a1 (m5.l.fo a3) hl okh))
      have bts : ∀ (N : pg_M), rm_S N 1188 (sp_hour G.L G.E q1.1 (sp_gu G.L (sp_rnd q1.2))).1 → N.2.1 207 37 = lN (sp_rnd q1.2) → rm_fo m N → pg_Ev S Λ YX11_bits (d + 4) [.int (nI (sp_laws G.L (sp_hour G.L G.E q1.1 (sp_gu G.L (sp_rnd q1.2))).1))] N (fun r M' => ∃ v, r = some (.int v) ∧ (v = nI (sp_pc (sp_laws G.L (sp_hour G.L G.E q1.1 (sp_gu G.L (sp_rnd q1.2))).1)) ∧ rm_S M' 1188 (sp_hour G.L G.E q1.1 (sp_gu G.L (sp_rnd q1.2))).1 ∧ M'.2.1 207 37 = lN (sp_rnd q1.2) ∧ rm_fo m M')) := fun N a1 a2 a3 => by
        have := sp_laws_lt (s := (sp_hour G.L G.E q1.1 (sp_gu G.L (sp_rnd q1.2))).1) hl
        exact pg_Ev.imp (fun r M' q => by obtain ⟨v, e1, e2, rfl⟩ := q; exact ⟨v, e1, e2, a1, a2, a3⟩) (rm_bits (by omega))
      have fin : ∀ (N : pg_M) (a b : Int32), a = nI (sp_pc (sp_laws G.L (sp_hour G.L G.E q1.1 (sp_gu G.L (sp_rnd q1.2))).1)) → b = nI (sp_hour G.L G.E q1.1 (sp_gu G.L (sp_rnd q1.2))).2 → rm_S N 1188 (sp_hour G.L G.E q1.1 (sp_gu G.L (sp_rnd q1.2))).1 → N.2.1 207 37 = lN (sp_rnd q1.2) → rm_fo m N → pg_At S Λ YX11_decades (d + 5) 62 [(0, .ref 207), (2, .int (nI n)), (3, .int (nI w)), (4, .int (nI D.2.2.1 + a)), (5, .int (nI D.2.2.2 + b)), (6, .int (nI i + 1))] [] N (fun r M' => ∃ v, r = some (.int v) ∧ (v = sp_qdec G (nI g) (nI n) (nI w) ∧ rm_G M' G ∧ pg_fr rm_X M M')) := by
        rintro N a b rfl rfl a1 a2 a3
        rw [nI_add, nI_add, nI_1]
        exact ih (_, _, N) ⟨by rw [hstep] <;> rfl, by rw [hstep] <;> rfl, by rw [hstep]; exact a1, by rw [hstep]; exact a2, m5.same a3.same, m6.trans a3.X⟩
      have hc0 : nI (G.L 4 0) ≤ 0 ↔ G.L 4 0 = 0 := by rw [← nI_0, nI_leI (by omega) (by omega)]; omega
      refine sX11_decades_62 (Q0 := fun _ _ => True) (Q1 := fun v M' => v = nI (G.L 4 0) ∧ M' = m) (Q2 := fun v M' => v = nI (sp_rnd q1.2 / 65536 % 10) ∧ rm_S M' 1188 q1.1 ∧ M'.2.1 207 37 = lN (sp_rnd q1.2) ∧ rm_fo m M') (Q3 := fun v M' => v = nI (sp_hour G.L G.E q1.1 (sp_gu G.L (sp_rnd q1.2))).2 ∧ rm_S M' 1188 (sp_hour G.L G.E q1.1 (sp_gu G.L (sp_rnd q1.2))).1 ∧ M'.2.1 207 37 = lN (sp_rnd q1.2) ∧ rm_fo m M') (Q4 := fun v M' => v = nI (sp_laws G.L (sp_hour G.L G.E q1.1 (sp_gu G.L (sp_rnd q1.2))).1) ∧ rm_S M' 1188 (sp_hour G.L G.E q1.1 (sp_gu G.L (sp_rnd q1.2))).1 ∧ M'.2.1 207 37 = lN (sp_rnd q1.2) ∧ rm_fo m M') (Q5 := fun v M' => v = nI (sp_pc (sp_laws G.L (sp_hour G.L G.E q1.1 (sp_gu G.L (sp_rnd q1.2))).1)) ∧ rm_S M' 1188 (sp_hour G.L G.E q1.1 (sp_gu G.L (sp_rnd q1.2))).1 ∧ M'.2.1 207 37 = lN (sp_rnd q1.2) ∧ rm_fo m M') (Q6 := fun v M' => v = nI (sp_hour G.L G.E q1.1 (sp_gu G.L (sp_rnd q1.2))).2 ∧ rm_S M' 1188 (sp_hour G.L G.E q1.1 (sp_gu G.L (sp_rnd q1.2))).1 ∧ M'.2.1 207 37 = lN (sp_rnd q1.2) ∧ rm_fo m M') (Q7 := fun v M' => v = nI (sp_laws G.L (sp_hour G.L G.E q1.1 (sp_gu G.L (sp_rnd q1.2))).1) ∧ rm_S M' 1188 (sp_hour G.L G.E q1.1 (sp_gu G.L (sp_rnd q1.2))).1 ∧ M'.2.1 207 37 = lN (sp_rnd q1.2) ∧ rm_fo m M') (Q8 := fun v M' => v = nI (sp_pc (sp_laws G.L (sp_hour G.L G.E q1.1 (sp_gu G.L (sp_rnd q1.2))).1)) ∧ rm_S M' 1188 (sp_hour G.L G.E q1.1 (sp_gu G.L (sp_rnd q1.2))).1 ∧ M'.2.1 207 37 = lN (sp_rnd q1.2) ∧ rm_fo m M') (Q9 := fun M' => rm_S M' 1188 q1.1 ∧ M'.2.1 207 37 = lN q1.2 ∧ rm_fo m M') (Q10 := fun v M' => v = nI (sp_rnd q1.2 / 65536 % 10) ∧ rm_S M' 1188 q1.1 ∧ M'.2.1 207 37 = lN (sp_rnd q1.2) ∧ rm_fo m M') (Q11 := fun v M' => v = nI (sp_hour G.L G.E q1.1 (sp_gu G.L (sp_rnd q1.2))).2 ∧ rm_S M' 1188 (sp_hour G.L G.E q1.1 (sp_gu G.L (sp_rnd q1.2))).1 ∧ M'.2.1 207 37 = lN (sp_rnd q1.2) ∧ rm_fo m M') (Q12 := fun v M' => v = nI (sp_laws G.L (sp_hour G.L G.E q1.1 (sp_gu G.L (sp_rnd q1.2))).1) ∧ rm_S M' 1188 (sp_hour G.L G.E q1.1 (sp_gu G.L (sp_rnd q1.2))).1 ∧ M'.2.1 207 37 = lN (sp_rnd q1.2) ∧ rm_fo m M') (Q13 := fun v M' => v = nI (sp_pc (sp_laws G.L (sp_hour G.L G.E q1.1 (sp_gu G.L (sp_rnd q1.2))).1)) ∧ rm_S M' 1188 (sp_hour G.L G.E q1.1 (sp_gu G.L (sp_rnd q1.2))).1 ∧ M'.2.1 207 37 = lN (sp_rnd q1.2) ∧ rm_fo m M') (Q14 := fun v M' => v = nI (sp_hour G.L G.E q1.1 (sp_gu G.L (sp_rnd q1.2))).2 ∧ rm_S M' 1188 (sp_hour G.L G.E q1.1 (sp_gu G.L (sp_rnd q1.2))).1 ∧ M'.2.1 207 37 = lN (sp_rnd q1.2) ∧ rm_fo m M') (Q15 := fun v M' => v = nI (sp_laws G.L (sp_hour G.L G.E q1.1 (sp_gu G.L (sp_rnd q1.2))).1) ∧ rm_S M' 1188 (sp_hour G.L G.E q1.1 (sp_gu G.L (sp_rnd q1.2))).1 ∧ M'.2.1 207 37 = lN (sp_rnd q1.2) ∧ rm_fo m M') (Q16 := fun v M' => v = nI (sp_pc (sp_laws G.L (sp_hour G.L G.E q1.1 (sp_gu G.L (sp_rnd q1.2))).1)) ∧ rm_S M' 1188 (sp_hour G.L G.E q1.1 (sp_gu G.L (sp_rnd q1.2))).1 ∧ M'.2.1 207 37 = lN (sp_rnd q1.2) ∧ rm_fo m M') hR (fun c => absurd c c9) (fun c => absurd c c9) (fun c => absurd c c9) (fun c => absurd c c9) (fun _ => rm_cloths hR m5.l) ?_ ?_ ?_ ?_ ?_ ?_ ?_ ?_ ?_ ?_ ?_ ?_ ?_ ?_ ?_ ?_ ?_ ?_ ?_
      all_goals rintro _ x2 M2 ⟨rfl, rfl⟩ c0
      all_goals rw [hc0] at c0
      · have hd := d0 c0
        exact drw _ (by rw [hd]; exact m3) (by rw [hd]; exact m4) rm_fo.rfl'
      · rintro x3 M3 ⟨rfl, a1, a2, a3⟩ c3; rw [h4 _ a3] at c3; exact pss _ false (gu0 c3) a1 a2 a3
      · rintro x3 M3 ⟨rfl, a1, a2, a3⟩ c3 x4 M4 ⟨rfl, b1, b2, b3⟩; exact lws _ b1 b2 b3
      · rintro x3 M3 ⟨rfl, a1, a2, a3⟩ c3 x4 M4 ⟨rfl, b1, b2, b3⟩ x5 M5 ⟨rfl, b1, b2, b3⟩; exact bts _ b1 b2 b3
      · rintro x3 M3 ⟨rfl, a1, a2, a3⟩ c3 x4 M4 ⟨rfl, b1, b2, b3⟩ x5 M5 ⟨rfl, b1, b2, b3⟩ x6 M6 ⟨rfl, b1, b2, b3⟩; exact fin _ _ _ rfl rfl b1 b2 b3
      · rintro x3 M3 ⟨rfl, a1, a2, a3⟩ c3; rw [h4 _ a3] at c3; exact pss _ true (gu3 c3) a1 a2 a3
      · rintro x3 M3 ⟨rfl, a1, a2, a3⟩ c3 x4 M4 ⟨rfl, b1, b2, b3⟩; exact lws _ b1 b2 b3
      · rintro x3 M3 ⟨rfl, a1, a2, a3⟩ c3 x4 M4 ⟨rfl, b1, b2, b3⟩ x5 M5 ⟨rfl, b1, b2, b3⟩; exact bts _ b1 b2 b3
      · rintro x3 M3 ⟨rfl, a1, a2, a3⟩ c3 x4 M4 ⟨rfl, b1, b2, b3⟩ x5 M5 ⟨rfl, b1, b2, b3⟩ x6 M6 ⟨rfl, b1, b2, b3⟩; exact fin _ _ _ rfl rfl b1 b2 b3
      · have hd := d1 c0
        rw [hd]
        exact rm_drawsCloth ok2 (by omega) hR m4 m3 m5.l hl ok1
      · rintro M10 ⟨a1, a2, a3⟩; exact drw _ a1 a2 a3
      · rintro M10 _ x3 M3 ⟨rfl, a1, a2, a3⟩ c3; rw [h4 _ a3] at c3; exact pss _ false (gu0 c3) a1 a2 a3
      · rintro M10 _ x3 M3 ⟨rfl, a1, a2, a3⟩ c3 x4 M4 ⟨rfl, b1, b2, b3⟩; exact lws _ b1 b2 b3
      · rintro M10 _ x3 M3 ⟨rfl, a1, a2, a3⟩ c3 x4 M4 ⟨rfl, b1, b2, b3⟩ x5 M5 ⟨rfl, b1, b2, b3⟩; exact bts _ b1 b2 b3
      · rintro M10 _ x3 M3 ⟨rfl, a1, a2, a3⟩ c3 x4 M4 ⟨rfl, b1, b2, b3⟩ x5 M5 ⟨rfl, b1, b2, b3⟩ x6 M6 ⟨rfl, b1, b2, b3⟩; exact fin _ _ _ rfl rfl b1 b2 b3
      · rintro M10 _ x3 M3 ⟨rfl, a1, a2, a3⟩ c3; rw [h4 _ a3] at c3; exact pss _ true (gu3 c3) a1 a2 a3
      · rintro M10 _ x3 M3 ⟨rfl, a1, a2, a3⟩ c3 x4 M4 ⟨rfl, b1, b2, b3⟩; exact lws _ b1 b2 b3
      · rintro M10 _ x3 M3 ⟨rfl, a1, a2, a3⟩ c3 x4 M4 ⟨rfl, b1, b2, b3⟩ x5 M5 ⟨rfl, b1, b2, b3⟩; exact bts _ b1 b2 b3
      · rintro M10 _ x3 M3 ⟨rfl, a1, a2, a3⟩ c3 x4 M4 ⟨rfl, b1, b2, b3⟩ x5 M5 ⟨rfl, b1, b2, b3⟩ x6 M6 ⟨rfl, b1, b2, b3⟩; exact fin _ _ _ rfl rfl b1 b2 b3
  · rintro x1 M1 ⟨rfl, rfl⟩ c x2 M2 ⟨rfl, rfl⟩ c2 x3 M3 ⟨rfl, rfl⟩ c3
    rw [wz, b2i_0] at c3
    have e : sp_ix 3 z = none := by simpa using c3
    exact no (by unfold sp_qdec; rw [e]; cases sp_ix 10000 x <;> cases sp_ix 61 y <;> rfl)
end PGR
