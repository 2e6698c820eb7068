/-! THE CLASS AS A WHOLE: how it holds the whole that both hold -/
/-- rows outside q are as they were -/
def pg_pf (q : Nat → Prop) (M M' : pg_M) : Prop := (∀ b, ¬ q b → M'.1 b = M.1 b) ∧ (∀ b, ¬ q b → M'.2.1 b = M.2.1 b) ∧ M'.2.2 = M.2.2
theorem pg_pf.rfl' {q : Nat → Prop} {M : pg_M} : pg_pf q M M := ⟨fun _ _ => rfl, fun _ _ => rfl, rfl⟩
theorem pg_pf.trans {q : Nat → Prop} {M M1 M2 : pg_M} (h : pg_pf q M M1) (h2 : pg_pf q M1 M2) : pg_pf q M M2 := ⟨fun b hb => (h2.1 b hb).trans (h.1 b hb), fun b hb => (h2.2.1 b hb).trans (h.2.1 b hb), h2.2.2.trans h.2.2⟩
theorem pg_pf.mono {q r : Nat → Prop} {M M1 : pg_M} (h : pg_pf q M M1) (hs : ∀ b, q b → r b) : pg_pf r M M1 := ⟨fun b hb => h.1 b (fun z => hb (hs b z)), fun b hb => h.2.1 b (fun z => hb (hs b z)), h.2.2⟩
theorem pg_pf.of {q : Nat → Prop} {X : List Nat} {M M1 : pg_M} (h : pg_fr X M M1) (hs : ∀ b, b ∈ X → q b) : pg_pf q M M1 := ⟨fun b hb => h.1 b (fun z => hb (hs b z)), fun b hb => h.2.1 b (fun z => hb (hs b z)), h.2.2⟩
theorem pg_pf.si {q : Nat → Prop} {M : pg_M} {a k : Nat} {v : Int32} (h : q a) : pg_pf q M (pg_si M a k v) := pg_pf.of (pg_fr.si (X := [a]) (by simp)) (fun b hb => by simp at hb; rw [hb]; exact h)
theorem pg_pf.sj {q : Nat → Prop} {M : pg_M} {a k : Nat} {v : Int64} (h : q a) : pg_pf q M (pg_sj M a k v) := pg_pf.of (pg_fr.sj (X := [a]) (by simp)) (fun b hb => by simp at hb; rw [hb]; exact h)
theorem pg_pf.sa {q : Nat → Prop} {M : pg_M} {a : Nat} {f : Nat → Int32} (h : q a) : pg_pf q M (pg_sa M a f) := pg_pf.of (pg_fr.sa (X := [a]) (by simp)) (fun b hb => by simp at hb; rw [hb]; exact h)
theorem pg_pf.sl {q : Nat → Prop} {M : pg_M} {a : Nat} {f : Nat → Int64} (h : q a) : pg_pf q M (pg_sl2 M a f) := pg_pf.of (pg_fr.sl (X := [a]) (by simp)) (fun b hb => by simp at hb; rw [hb]; exact h)
def rc_F (M : pg_M) (a : Nat) (f : List (Nat × Nat × Nat)) : Prop := M.1 a 5 = nI f.length ∧ f.length ≤ 8 ∧ ∀ (j : Nat) (e : Nat × Nat × Nat), f[j]? = some e → M.1 (a + 1) j = nI e.1 ∧ M.1 (a + 2) j = nI e.2.1 ∧ M.1 (a + 3) j = nI e.2.2
def rc_ut (M : pg_M) (us : List sp_N) (t : Nat) : Prop := t < 17 ∧ M.1 19 4 = nI t ∧ M.1 19 5 = nI us.length ∧ us.length ≤ 16 ∧ ∀ (j : Nat) (s : sp_N), us[j]? = some s → rc_S M (24 + 5 * ((t + 17 - us.length + j) % 17)) s
def rc_us (M : pg_M) (us : List sp_N) : Prop := ∃ t, rc_ut M us t
def rc_ms (M : pg_M) (mk : Nat → Option (sp_N × List (Nat × Nat × Nat))) : Prop := ∀ m, m < 4 → M.1 23 m = b2i (mk m).isSome ∧ ∀ t f, mk m = some (t, f) → rc_S M (109 + 11 * m) t ∧ rc_F M (114 + 11 * m) f
def rc_det (e : Nat × Nat × Nat) : Int32 := if e.1 = 0 then nI e.2.2 else if e.1 = 3 then nI e.2.1 else 0
def rc_P (M : pg_M) (p : Nat) (pl : List (Nat × Nat × Nat)) : Prop := M.1 p 3 = nI pl.length ∧ ∀ (j : Nat) (e : Nat × Nat × Nat), pl[j]? = some e → M.1 (p + 1) j = nI (11 + e.1) ∧ M.1 (p + 2) j = (if e.1 < 3 then nI e.2.1 else -1) ∧ M.1 (p + 3) j = rc_det e
def rc_dy (M : pg_M) : Prop := ((M.2.2 0 8 = 169 ∧ M.2.2 0 9 = 184) ∨ (M.2.2 0 8 = 184 ∧ M.2.2 0 9 = 169)) ∧ ((M.2.2 0 10 = 199 ∧ M.2.2 0 11 = 203) ∨ (M.2.2 0 10 = 203 ∧ M.2.2 0 11 = 199))
def rc_N (M : pg_M) (l n : Nat) (nm : Nat → List Nat) : Prop := ∀ c, c < n → M.2.1 (l + 1) c = lN (sp_w 32 (nm c))
def rc_T (M : pg_M) (tp : List Nat) : Prop := M.1 1 1 = nI tp.length ∧ ∀ (j c : Nat), tp[j]? = some c → M.1 2 j = nI c
/-- what the filler never writes -/
def rc_Z (M : pg_M) : Prop := M.1 156 0 = 0 ∧ M.1 157 0 = 0
def rc_G (M : pg_M) (G : sp_G) : Prop := (rc_dy M) ∧ (rc_L M (M.2.2 0 8) G.L G.E) ∧ (rc_N M (M.2.2 0 8) (G.L 4 0) G.nm) ∧ (rc_S M 3 G.s) ∧ (rc_F M 13 G.fl) ∧ (rc_us M G.us) ∧ (rc_ms M G.mk) ∧ (rc_P M (M.2.2 0 10) G.pl) ∧ (rc_T M G.tp) ∧ (rc_Z M)
theorem rc_G.d {M : pg_M} {G : sp_G} (h1 : rc_G M G) : rc_dy M := h1.1
theorem rc_G.l {M : pg_M} {G : sp_G} (h1 : rc_G M G) : rc_L M (M.2.2 0 8) G.L G.E := h1.2.1
theorem rc_G.n {M : pg_M} {G : sp_G} (h1 : rc_G M G) : rc_N M (M.2.2 0 8) (G.L 4 0) G.nm := h1.2.2.1
theorem rc_G.s {M : pg_M} {G : sp_G} (h1 : rc_G M G) : rc_S M 3 G.s := h1.2.2.2.1
theorem rc_G.f {M : pg_M} {G : sp_G} (h1 : rc_G M G) : rc_F M 13 G.fl := h1.2.2.2.2.1
theorem rc_G.u {M : pg_M} {G : sp_G} (h1 : rc_G M G) : rc_us M G.us := h1.2.2.2.2.2.1
theorem rc_G.m {M : pg_M} {G : sp_G} (h1 : rc_G M G) : rc_ms M G.mk := h1.2.2.2.2.2.2.1
theorem rc_G.p {M : pg_M} {G : sp_G} (h1 : rc_G M G) : rc_P M (M.2.2 0 10) G.pl := h1.2.2.2.2.2.2.2.1
theorem rc_G.t {M : pg_M} {G : sp_G} (h1 : rc_G M G) : rc_T M G.tp := h1.2.2.2.2.2.2.2.2.1
theorem rc_G.z {M : pg_M} {G : sp_G} (h1 : rc_G M G) : rc_Z M := h1.2.2.2.2.2.2.2.2.2
theorem rc_F.fr {M M' : pg_M} {a : Nat} {f : List (Nat × Nat × Nat)} (h : rc_F M a f) (h1 : ∀ j, j < 4 → M'.1 (a + j) = M.1 (a + j)) : rc_F M' a f := by
  unfold rc_F at h ⊢
  have g0 := h1 0 (by omega)
  simp only [Nat.add_zero] at g0
  rw [g0, h1 1 (by omega), h1 2 (by omega), h1 3 (by omega)]
  exact h
theorem rc_ut.fr {M M' : pg_M} {us : List sp_N} {t : Nat} (h : rc_ut M us t) (h1 : M'.1 19 = M.1 19) (h2 : ∀ b, 24 ≤ b → b < 109 → M'.1 b = M.1 b) : rc_ut M' us t := by
  obtain ⟨a1, a2, a3, a4, a5⟩ := h
  exact ⟨a1, by rw [h1]; exact a2, by rw [h1]; exact a3, a4, fun j s q => (a5 j s q).fr (fun i hi => h2 _ (by omega) (by omega))⟩
theorem rc_us.fr {M M' : pg_M} {us : List sp_N} (h : rc_us M us) (h1 : M'.1 19 = M.1 19) (h2 : ∀ b, 24 ≤ b → b < 109 → M'.1 b = M.1 b) : rc_us M' us := by
  obtain ⟨t, h⟩ := h
  exact ⟨t, h.fr h1 h2⟩
theorem rc_ms.fr {M M' : pg_M} {mk : Nat → Option (sp_N × List (Nat × Nat × Nat))} (h : rc_ms M mk) (h1 : M'.1 23 = M.1 23) (h2 : ∀ b, 109 ≤ b → b < 153 → M'.1 b = M.1 b) : rc_ms M' mk := fun m hm =>
  ⟨by rw [h1]; exact (h m hm).1, fun t f q => ⟨((h m hm).2 t f q).1.fr (fun i hi => h2 _ (by omega) (by omega)), ((h m hm).2 t f q).2.fr (fun i hi => h2 _ (by omega) (by omega))⟩⟩
theorem rc_P.fr {M M' : pg_M} {p : Nat} {pl : List (Nat × Nat × Nat)} (h : rc_P M p pl) (h0 : M'.1 p 3 = M.1 p 3) (h1 : ∀ j, 1 ≤ j → j < 4 → M'.1 (p + j) = M.1 (p + j)) : rc_P M' p pl := by
  unfold rc_P at h ⊢
  rw [h0, h1 1 (by omega) (by omega), h1 2 (by omega) (by omega), h1 3 (by omega) (by omega)]
  exact h
/-- rows that calls use for themselves alone -/
def rc_q (b : Nat) : Prop := b = 0 ∨ (8 ≤ b ∧ b ≤ 12) ∨ b = 17 ∨ b = 18 ∨ (153 ≤ b ∧ b ≤ 155) ∨ (158 ≤ b ∧ b ≤ 168) ∨ b = 180 ∨ b = 183 ∨ b = 195 ∨ b = 198
/-- and those of the state now and of what can be undone -/
def rc_d (b : Nat) : Prop := rc_q b ∨ (3 ≤ b ∧ b ≤ 7) ∨ b = 19 ∨ (24 ≤ b ∧ b ≤ 108)
def rc_sm (M M' : pg_M) : Prop := (∀ b, ¬ rc_q b → b ≠ 199 → b ≠ 203 → M'.1 b = M.1 b) ∧ (M'.1 199 3 = M.1 199 3 ∧ M'.1 203 3 = M.1 203 3) ∧ (∀ b, ¬ rc_q b → b ≠ 199 → b ≠ 203 → M'.2.1 b = M.2.1 b) ∧ M'.2.2 = M.2.2
def rc_out (M M' : pg_M) : Prop := ∀ b, 207 ≤ b → M'.1 b = M.1 b ∧ M'.2.1 b = M.2.1 b
theorem rc_out.rfl' {M : pg_M} : rc_out M M := fun _ _ => ⟨rfl, rfl⟩
theorem rc_out.trans {M M1 M2 : pg_M} (h : rc_out M M1) (h2 : rc_out M1 M2) : rc_out M M2 := fun b hb => ⟨(h2 b hb).1.trans (h b hb).1, (h2 b hb).2.trans (h b hb).2⟩
theorem rc_out.of {q : Nat → Prop} {M M1 : pg_M} (h : pg_pf q M M1) (hq : ∀ b, q b → b < 207) : rc_out M M1 := fun b hb => ⟨h.1 b (fun z => by have := hq b z; omega), h.2.1 b (fun z => by have := hq b z; omega)⟩
theorem rc_out.q {M M1 : pg_M} (h : pg_pf rc_q M M1) : rc_out M M1 := rc_out.of h (fun b hb => by unfold rc_q at hb; omega)
theorem rc_out.dd {M M1 : pg_M} (h : pg_pf rc_d M M1) : rc_out M M1 := rc_out.of h (fun b hb => by unfold rc_d rc_q at hb; omega)
theorem rc_out.sm {M M1 : pg_M} (h : rc_sm M M1) : rc_out M M1 := fun b hb => ⟨h.1 b (by unfold rc_q; omega) (by omega) (by omega), h.2.2.1 b (by unfold rc_q; omega) (by omega) (by omega)⟩
theorem rc_sm.of {M M1 : pg_M} (h : pg_pf rc_q M M1) : rc_sm M M1 := ⟨fun b hb _ _ => h.1 b hb, ⟨by rw [h.1 199 (by unfold rc_q; omega)], by rw [h.1 203 (by unfold rc_q; omega)]⟩, fun b hb _ _ => h.2.1 b hb, h.2.2⟩
theorem rc_sm.trans {M M1 M2 : pg_M} (h : rc_sm M M1) (h2 : rc_sm M1 M2) : rc_sm M M2 := ⟨fun b hb a c => (h2.1 b hb a c).trans (h.1 b hb a c), ⟨h2.2.1.1.trans h.2.1.1, h2.2.1.2.trans h.2.1.2⟩, fun b hb a c => (h2.2.2.1 b hb a c).trans (h.2.2.1 b hb a c), h2.2.2.2.trans h.2.2.2⟩
theorem rc_dy.l {M : pg_M} (h : rc_dy M) : M.2.2 0 8 = 169 ∨ M.2.2 0 8 = 184 := by rcases h.1 with ⟨a, b⟩ | ⟨a, b⟩ <;> simp [a]
theorem rc_dy.p {M : pg_M} (h : rc_dy M) : M.2.2 0 10 = 199 ∨ M.2.2 0 10 = 203 := by rcases h.2 with ⟨a, b⟩ | ⟨a, b⟩ <;> simp [a]
theorem rc_dy.x5 {M : pg_M} {Λ : pg_L} (h : rc_dy M) (hF : pg_full Λ) : pg_isX5 Λ (M.2.2 0 8) := by
  rcases h.l with a | a
  · rw [a]; exact hF.2.2.2.2.2.2.2.2.2.1
  · rw [a]; exact hF.2.2.2.2.2.2.2.2.2.2.1
theorem rc_dy.x1 {M : pg_M} {Λ : pg_L} (h : rc_dy M) (hF : pg_full Λ) : pg_isX1 Λ (M.2.2 0 10) := by
  rcases h.p with a | a
  · rw [a]; exact hF.2.2.2.2.2.2.2.2.2.2.2.1
  · rw [a]; exact hF.2.2.2.2.2.2.2.2.2.2.2.2.1
theorem rc_dy.ap {M : pg_M} {a : Nat} (h : rc_dy M) (ha : a + 5 ≤ 169) : pg_apart a (M.2.2 0 8) := by unfold pg_apart; rcases h.l with b | b <;> rw [b] <;> omega
theorem rc_dy.q11 {M : pg_M} (h : rc_dy M) : rc_q (M.2.2 0 8 + 11) := by unfold rc_q; rcases h.l with b | b <;> rw [b] <;> omega
theorem rc_dy.q14 {M : pg_M} (h : rc_dy M) : rc_q (M.2.2 0 8 + 14) := by unfold rc_q; rcases h.l with b | b <;> rw [b] <;> omega
theorem rc_dy.mv {M M' : pg_M} (h : rc_dy M) (h1 : M'.2.2 = M.2.2) : rc_dy M' := by unfold rc_dy at h ⊢; rw [h1]; exact h
theorem rc_G.same {M M' : pg_M} {G : sp_G} (hg : rc_G M G) (h : rc_sm M M') : rc_G M' G := by
  obtain ⟨h1, h2, h3, h4⟩ := h
  obtain ⟨gd, gl, gn, gs, gf, gu, gm, gp, gt, gz⟩ := hg
  have gdl := gd.l
  have gdp := gd.p
  refine ⟨gd.mv h4, ?_, ?_, gs.fr (fun j hj => h1 _ (by unfold rc_q; omega) (by omega) (by omega)), gf.fr (fun j hj => h1 _ (by unfold rc_q; omega) (by omega) (by omega)), gu.fr (h1 _ (by unfold rc_q; omega) (by omega) (by omega)) (fun b a c => h1 _ (by unfold rc_q; omega) (by omega) (by omega)), gm.fr (h1 _ (by unfold rc_q; omega) (by omega) (by omega)) (fun b a c => h1 _ (by unfold rc_q; omega) (by omega) (by omega)), ?_, ?_, ?_⟩
  · rw [h4]
    exact gl.fr (fun j a b c => h1 _ (by unfold rc_q; omega) (by omega) (by omega))
  · intro c hc
    rw [h4, h3 _ (by unfold rc_q; omega) (by omega) (by omega)]
    exact gn c hc
  · rw [h4]
    refine gp.fr ?_ (fun j a b => h1 _ (by unfold rc_q; omega) (by omega) (by omega))
    rcases gdp with e | e
    · rw [e]; exact h2.1
    · rw [e]; exact h2.2
  · unfold rc_T at gt ⊢
    rw [h1 1 (by unfold rc_q; omega) (by omega) (by omega), h1 2 (by unfold rc_q; omega) (by omega) (by omega)]
    exact gt
  · unfold rc_Z at gz ⊢
    rw [h1 156 (by unfold rc_q; omega) (by omega) (by omega), h1 157 (by unfold rc_q; omega) (by omega) (by omega)]
    exact gz
theorem rc_G.q {M M' : pg_M} {G : sp_G} (hg : rc_G M G) (h : pg_pf rc_q M M') : rc_G M' G := hg.same (rc_sm.of h)
theorem rc_G.did {M M' : pg_M} {G : sp_G} {t : sp_N} {us : List sp_N} (hg : rc_G M G) (h : pg_pf rc_d M M') (hs : rc_S M' 3 t) (hu : rc_us M' us) : rc_G M' (G.did t us) := by
  obtain ⟨h1, h3, h4⟩ := h
  obtain ⟨gd, gl, gn, gs, gf, gu, gm, gp, gt, gz⟩ := hg
  have gdl := gd.l
  have gdp := gd.p
  refine ⟨gd.mv h4, ?_, ?_, hs, gf.fr (fun j hj => h1 _ (by unfold rc_d rc_q; omega)), hu, gm.fr (h1 _ (by unfold rc_d rc_q; omega)) (fun b a c => h1 _ (by unfold rc_d rc_q; omega)), ?_, ?_, ?_⟩
  · show rc_L M' (M'.2.2 0 8) G.L G.E
    rw [h4]
    exact gl.fr (fun j a b c => h1 _ (by unfold rc_d rc_q; omega))
  · show rc_N M' (M'.2.2 0 8) (G.L 4 0) G.nm
    intro c hc
    rw [h4, h3 _ (by unfold rc_d rc_q; omega)]
    exact gn c hc
  · show rc_P M' (M'.2.2 0 10) G.pl
    rw [h4]
    exact gp.fr (by rw [h1 _ (by unfold rc_d rc_q; omega)]) (fun j a b => h1 _ (by unfold rc_d rc_q; omega))
  · show rc_T M' G.tp
    unfold rc_T at gt ⊢
    rw [h1 1 (by unfold rc_d rc_q; omega), h1 2 (by unfold rc_d rc_q; omega)]
    exact gt
  · show rc_Z M'
    unfold rc_Z at gz ⊢
    rw [h1 156 (by unfold rc_d rc_q; omega), h1 157 (by unfold rc_d rc_q; omega)]
    exact gz
theorem rc_L.of {M : pg_M} {G : sp_G} (hg : rc_G M G) {M' : pg_M} (h : pg_pf rc_d M M') : rc_L M' (M.2.2 0 8) G.L G.E := by
  have gdl := hg.d.l
  exact hg.l.fr (fun j a b c => h.1 _ (by unfold rc_d rc_q; omega))
theorem pg_full.st {Λ : pg_L} (hF : pg_full Λ) {j : Nat} (h : j < 17) : pg_isX9 Λ (24 + 5 * j) := hF.2.2.2.2.2.2.2.2.2.2.2.2.2.1 j h
theorem pg_full.ms {Λ : pg_L} (hF : pg_full Λ) {j : Nat} (h : j < 4) : pg_isX9 Λ (109 + 11 * j) := hF.2.2.2.2.2.2.2.2.2.2.2.2.2.2.1 j h
theorem pg_full.mf {Λ : pg_L} (hF : pg_full Λ) {j : Nat} (h : j < 4) : pg_isX2 Λ (114 + 11 * j) := hF.2.2.2.2.2.2.2.2.2.2.2.2.2.2.2 j h
