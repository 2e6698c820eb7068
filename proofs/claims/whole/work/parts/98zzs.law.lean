/-! the law's loop: what it rests on -/
abbrev YL : pg_Y := (yL_law, cL_law, 7, some .boolean)
theorem rc_G.away {M M' : pg_M} {G : sp_G} (hg : rc_G M G) (h1 : ∀ b, b < 207 → M'.1 b = M.1 b) (h3 : ∀ b, b < 207 → M'.2.1 b = M.2.1 b) (h4 : M'.2.2 = M.2.2) : rc_G M' G := by
  obtain ⟨gd, gl, gn, gs, gf, gu, gm, gp, gt, gz⟩ := hg
  have gdl := gd.l
  have gdp := gd.p
  refine ⟨gd.mv h4, ?_, ?_, gs.fr (fun j hj => h1 _ (by omega)), gf.fr (fun j hj => h1 _ (by omega)), gu.fr (h1 _ (by omega)) (fun b a c => h1 _ (by omega)), gm.fr (h1 _ (by omega)) (fun b a c => h1 _ (by omega)), ?_, ?_, ?_⟩
  · rw [h4]
    exact gl.fr (fun j a b c => h1 _ (by omega))
  · intro c hc
    rw [h4, h3 _ (by omega)]
    exact gn c hc
  · rw [h4]
    exact gp.fr (by rw [h1 _ (by omega)]) (fun j a b => h1 _ (by omega))
  · unfold rc_T at gt ⊢
    rw [h1 1 (by omega), h1 2 (by omega)]
    exact gt
  · unfold rc_Z at gz ⊢
    rw [h1 156 (by omega), h1 157 (by omega)]
    exact gz
theorem rc_G.off {M M' : pg_M} {G : sp_G} (hg : rc_G M G) (h : pg_fr rm_X M M') : rc_G M' G :=
  hg.away (fun b hb => h.1 b (by unfold rm_X; simp; omega)) (fun b hb => h.2.1 b (by unfold rm_X; simp; omega)) h.2.2
theorem rm_G.off {M M' : pg_M} {G : sp_G} (hg : rm_G M G) (h : ∀ b, 207 ≤ b → b < 231 → M'.1 b = M.1 b ∧ M'.2.1 b = M.2.1 b) : rm_G M' G := by
  refine hg.same ⟨fun b hb => (h b ?_ ?_).1, fun b hb => (h b ?_ ?_).2, fun j _ => by rw [(h 207 (by omega) (by omega)).1], fun j _ => by rw [(h 221 (by omega) (by omega)).1]⟩
  all_goals
    simp only [List.mem_cons, List.not_mem_nil, or_false] at hb
    omega
theorem rm_G.out {M M' : pg_M} {G : sp_G} (hg : rm_G M G) (h : rc_out M M') : rm_G M' G := hg.off (fun b hb _ => h b hb)
def lw_I (M : pg_M) (G : sp_G) (h : Nat) : Prop := rc_G M G ∧ rm_G M G ∧ sp_okG G h
abbrev lw_ls (i : Nat) : List (Nat × Value) := [(4, .int (nI i)), (3, .ref 231), (2, .ref 207), (1, .ref 0), (0, .ref 1300)]
def lw_in (i L : Nat) : Prop := ∀ c : Int32, c ∈ ([0, 1, 2, 3, 4, 5, 6] : List Int32) → vp_in (nI i + c) L
section LQA
variable {S : pg_S} {Λ : pg_L} {Y : pg_Y} {d pc : Nat} {ls : List (Nat × Value)} {st : List Value} {M : pg_M} {P : lq_B}
theorem lq_lald {a n : Nat} {i : Int32} (hΛ : Λ a = some (.inr (.long, n, some none))) (hin : vp_in i n) (hdg : decode Y.2.1 pc = .ok (.laload, 1)) (kk : lq_At S Λ Y d (pc + 1) ls (.long (M.2.1 a i.toNatClampNeg) :: st) M P) : lq_At S Λ Y d pc ls (.int i :: .ref a :: st) M P := by
  intro p e s m args below meth c H locs R lj C9 hR hM hL hl
  exact va_lald (a := pg_ad S a) C9.1 C9.2.1 C9.2.2.2.2.2.1.1 (pg_one hM hΛ) 0 1 rfl rfl hin hdg (kk p e s m args below meth c H locs R lj C9 hR hM hL hl)
end LQA
