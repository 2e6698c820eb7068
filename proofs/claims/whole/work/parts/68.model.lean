/-! the reference: ask, rests -/
def sp_wv (a b c : Int32) (e : Nat) : Int32 := if e = 0 then a else if e = 1 then b else c
/-- what is lost where the guard stands at g and the thief at t -/
def sp_lt (a b c : Int32) (g t : Nat) : Int32 := if g = t then 0 else sp_wv a b c t
def sp_ris (a b c : Int32) (k : Nat) : Bool := decide (sp_lt a b c (k / 3) (k % 3) = 0) && (decide (¬ sp_lt a b c (k / 3) (k % 3) < sp_lt a b c (k / 3) 0) && (decide (¬ sp_lt a b c (k / 3) (k % 3) < sp_lt a b c (k / 3) 1) && decide (¬ sp_lt a b c (k / 3) (k % 3) < sp_lt a b c (k / 3) 2)))
def sp_rf (a b c w : Int32) : Nat → Option Nat
  | 0 => none
  | k + 1 => if sp_ris a b c k = true ∧ nI (fb_ct (sp_ris a b c) k) = w then some k else sp_rf a b c w k
def sp_rmay (a b c w : Int32) : Bool := ((sp_ix 10 a).isSome && ((sp_ix 10 b).isSome && (sp_ix 10 c).isSome)) && decide (¬ w < -1)
/-- what rests answers; none where it throws -/
def sp_qrests (a b c w : Int32) : Option Int32 := if sp_rmay a b c w then (if w < 0 then some (nI (fb_ct (sp_ris a b c) 9)) else (sp_rf a b c w 9).map nI) else none
theorem sp_rf_lt {a b c w : Int32} : ∀ n k, sp_rf a b c w n = some k → k < n := by
  intro n
  induction n with
  | zero => intro k h; cases h
  | succ n ih =>
    intro k h
    simp only [sp_rf] at h
    split at h
    · cases h; omega
    · have := ih k h; omega
section PGR
variable {S : pg_S} {Λ : pg_L} {d h : Nat} {M : pg_M} {G : sp_G} {L s : sp_N} {E : sp_E}
theorem rm_ask {x : Int32} (hR : pg_isX11 Λ) (hg : rm_G M G) (hk : sp_okG G h) : pg_Ev S Λ YX11_ask (d + 5) [.ref 207, .int x] M (fun r M' => ∃ v, r = some (.int v) ∧ (v = sp_qask G x ∧ rm_G M' G ∧ pg_fr rm_X M M')) := by
  have h6 := hk.l.1
  have hw := hk.l.2.2.2.2.1
  have hg0 := hg.th
  have hst := sp_stb_lt (fl := G.fl) hk.l
  cases hi : sp_ix (G.L 4 0) x with
  | none =>
    have e2 : sp_qask G x = -1 := by unfold sp_qask; rw [hi]
    rw [e2]
    refine oX11_ask (sX11_ask_0 (Q0 := fun v M' => v = b2i (sp_ix (G.L 4 0) x).isSome ∧ M' = pg_si M 207 0 0) (Q1 := fun _ _ => True) (Q2 := fun _ _ => True) hR (pg_Ev.mono (by omega) (rm_isCloth (d := 0) hR hg0.l hk.l)) ?_ ?_ ?_ ?_)
    rotate_left 3
    · rintro x1 M1 ⟨rfl, rfl⟩ c; exact ⟨_, rfl, rfl, hg0, rm_X.th⟩
    all_goals (rintro x1 M1 ⟨rfl, rfl⟩ c; rw [hi] at c; exact absurd rfl c)
  | some c =>
    obtain ⟨hc, rfl⟩ := (sp_ix_some (by omega)).mp hi
    have hq : sp_qask G (nI c) = sp_oI (sp_ask G.L G.E (sp_stb G.L G.E G.fl) c 13).1 := by unfold sp_qask; rw [hi]
    rw [hq]
    obtain ⟨N, hN⟩ : ∃ N : Nat, N = 13 := ⟨13, rfl⟩
    rw [← hN]
    refine oX11_ask (sX11_ask_0 (Q0 := fun v M' => v = b2i (sp_ix (G.L 4 0) (nI c)).isSome ∧ M' = pg_si M 207 0 0) (Q1 := fun v M' => v = nI (sp_stb G.L G.E G.fl) ∧ pg_fr [219, 220] (pg_si M 207 0 0) M') (Q2 := fun v M' => v = nI (sp_pc (sp_stb G.L G.E G.fl)) ∧ pg_fr [219, 220] (pg_si M 207 0 0) M') hR (pg_Ev.mono (by omega) (rm_isCloth (d := 0) hR hg0.l hk.l)) ?_ ?_ ?_ ?_)
    · rintro x1 M1 ⟨rfl, rfl⟩ c1; exact rm_startsNow hR hg0 hk
    · rintro x1 M1 ⟨rfl, rfl⟩ c1 x2 M2 ⟨rfl, f2⟩
      exact pg_Ev.imp (fun r M' q => by obtain ⟨v, e1, e2, rfl⟩ := q; exact ⟨v, e1, e2, f2⟩) (rm_bits (by omega))
    · rintro x1 M1 ⟨rfl, rfl⟩ c1 x2 M2 ⟨rfl, f2⟩ x3 M3 ⟨rfl, f3⟩
      generalize sp_stb G.L G.E G.fl = set at hst ⊢
      have g3 := hg0.same (rm_same.ev f3)
      have x3 : pg_fr rm_X M M3 := rm_X.th.trans (rm_X.ev f3)
      refine pg_loop (fun n (q : Int32 × Int32 × pg_M) => pg_At S Λ YX11_ask (d + 5) 31 [(0, .ref 207), (1, .int (nI c)), (2, .int (nI set)), (3, .int q.1), (4, .int q.2.1), (5, .int (nI n))] [] q.2.2 _) (fun n q => q.1 = sp_oI (sp_ask G.L G.E set c n).1 ∧ q.2.1 = nI (sp_ask G.L G.E set c n).2 ∧ rm_G q.2.2 G ∧ pg_fr rm_X M q.2.2) N ?_ ?_ 0 (_, _, M3) (Nat.zero_le _) ⟨rfl, rfl, g3, x3⟩
      · rintro ⟨v3, v4, m⟩ ⟨rfl, rfl, m3, m4⟩
        exact sX11_ask_31 (fun _ => ⟨_, rfl, rfl, m3, m4⟩) (fun c => absurd (show (12 : Int32) < nI N by rw [hN]; decide) c)
      · rintro n ⟨v3, v4, m⟩ hn ⟨rfl, rfl, m3, m4⟩ ih
        have c9 : ¬ (12 : Int32) < nI n := by rw [show (12 : Int32) = nI 12 from rfl, nI_ltI (by omega) (by omega)]; omega
        simp only at m3 m4 ⊢
        refine sX11_ask_31 (fun c => absurd c c9) (fun _ => ?_)
        refine pg_loop (fun i (m : pg_M) => pg_At S Λ YX11_ask (d + 5) 41 [(0, .ref 207), (1, .int (nI c)), (2, .int (nI set)), (3, .int (sp_oI (sp_ask G.L G.E set c n).1)), (4, .int (nI (sp_ask G.L G.E set c n).2)), (5, .int (nI n)), (6, .int (nI i))] [] m _) (fun i m => rm_G m G ∧ pg_fr rm_X M m ∧ ∀ v, v < i → m.1 230 v = 0) 10 ?_ ?_ 0 m (Nat.zero_le _) ⟨m3, m4, fun v hv => by omega⟩
        · rintro m ⟨n1, n2, n3⟩
          refine sX11_ask_41 hR (fun _ => ?_) (fun c => absurd (show (10 : Int32) ≤ nI 10 by decide) c) (fun c => absurd (show (10 : Int32) ≤ nI 10 by decide) c)
          refine pg_loop (fun i (q : Int32 × pg_M) => pg_At S Λ YX11_ask (d + 5) 68 [(0, .ref 207), (1, .int (nI c)), (2, .int (nI set)), (3, .int (sp_oI (sp_ask G.L G.E set c n).1)), (4, .int (nI (sp_ask G.L G.E set c n).2)), (5, .int (nI n)), (6, .int q.1), (7, .int (nI i))] [] q.2 _) (fun i q => q.1 = nI (sp_mo G.L G.E set c n i) ∧ rm_G q.2 G ∧ pg_fr rm_X M q.2 ∧ ∀ v, v < 10 → q.2.1 230 v = nI (sp_al G.L G.E set c n v i)) (G.L 4 3) ?_ ?_ 0 (0, m) (Nat.zero_le _) ⟨rfl, n1, n2, fun v hv => by show m.1 230 v = _; rw [n3 v hv]; rfl⟩
          · rintro ⟨v6, m⟩ ⟨rfl, p1, p2, p3⟩
            have hm : m.1 213 (2 : Int32).toNatClampNeg = nI (G.L 4 3) := p1.l.2.2.1
            have c8 : nI (G.L 4 3) ≤ nI (G.L 4 3) := nI_le (Nat.le_refl _) (by omega)
            have la := (sp_ask_le (L := G.L) (E := G.E) (set := set) (c := c) n).1
            have lm := sp_mo_le (L := G.L) (E := G.E) (set := set) (c := c) (n := n) (G.L 4 3)
            simp only at p1 p2 p3 hm ⊢
            refine sX11_ask_68 (Q0 := fun _ _ => True) hR ?_ ?_ ?_ ?_ ?_ ?_ ?_ ?_ <;> simp only [hm]
            · intro _ c1 _
              rw [nI_leI (by omega) (by omega)] at c1
              rw [nI_1]
              have e : sp_ask G.L G.E set c (n + 1) = sp_ask G.L G.E set c n := by simp only [sp_ask]; rw [if_neg (by omega)]
              exact ih (_, _, m) ⟨by rw [e] <;> rfl, by rw [e] <;> rfl, p1, p2⟩
            · intro _ c1 c2; exact absurd c1 c2
            · intro _ c1 c2; exact absurd c2 c1
            · intro _ c1 _
              rw [nI_leI (by omega) (by omega)] at c1
              rw [nI_1]
              have e : sp_ask G.L G.E set c (n + 1) = (some n, sp_mo G.L G.E set c n (G.L 4 3)) := by simp only [sp_ask]; rw [if_pos (by omega)]
              exact ih (_, _, m) ⟨by rw [e] <;> rfl, by rw [e] <;> rfl, p1, p2⟩
            all_goals exact fun c => absurd c8 c
          · rintro i ⟨v6, m⟩ hi3 ⟨rfl, p1, p2, p3⟩ ih2
            have hm : m.1 213 (2 : Int32).toNatClampNeg = nI (G.L 4 3) := p1.l.2.2.1
            have c8 : ¬ nI (G.L 4 3) ≤ nI i := nI_ge hi3 (by omega)
            have hwl := sp_wetb_le (L := G.L) (E := G.E) (c := c) (start := i) n
            have lm := sp_mo_le (L := G.L) (E := G.E) (set := set) (c := c) (n := n) i
            have la := sp_al_le (L := G.L) (E := G.E) (set := set) (c := c) (n := n) (v := sp_wetb G.L G.E c i n) (i + 1)
            simp only at p1 p2 p3 hm ⊢
            have hal : ∀ v, sp_al G.L G.E set c n v (i + 1) = sp_al G.L G.E set c n v i + (if set.testBit i && decide (sp_wetb G.L G.E c i n = v) then 1 else 0) := fun v => fb_ct_succ _ _
            have hnew : ∀ N : pg_M, pg_fr [219, 220] m N → N.1 230 (nI (sp_wetb G.L G.E c i n)).toNatClampNeg + ((nI set >>> (nI i &&& 31)) &&& 1) = nI (sp_al G.L G.E set c n (sp_wetb G.L G.E c i n) (i + 1)) := fun N f => by
              rw [nI_clamp (by omega), f.1 230 (by simp), p3 _ (by omega), nb_bit1 (by omega) (by omega), nI_add, hal]
              congr 1
              rw [Nat.testBit_eq_decide_div_mod_eq]
              by_cases q : set / 2 ^ i % 2 = 1
              · simp [q]
              · rw [show set / 2 ^ i % 2 = 0 by omega]; simp
            have hrow : ∀ N : pg_M, pg_fr [219, 220] m N → ∀ v, v < 10 → (pg_si N 230 (sp_wetb G.L G.E c i n) (nI (sp_al G.L G.E set c n (sp_wetb G.L G.E c i n) (i + 1)))).1 230 v = nI (sp_al G.L G.E set c n v (i + 1)) := fun N f v hv => by
              rw [pg_si_at]
              by_cases q : v = sp_wetb G.L G.E c i n
              · subst q; rw [pk_us]
              · rw [pk_un q, f.1 230 (by simp), p3 v hv, hal]
                simp [Ne.symm q]
            refine sX11_ask_68 (Q0 := fun v M' => v = nI (sp_wetb G.L G.E c i n) ∧ pg_fr [219, 220] m M') hR ?_ ?_ ?_ ?_ ?_ ?_ ?_ ?_ <;> simp only [hm]
            · exact fun c => absurd c c8
            · exact fun c => absurd c c8
            · exact fun c => absurd c c8
            · exact fun c => absurd c c8
            · intro _; exact pg_Ev.mono (by omega) (rm_wetBehind (d := 0) hc (by omega) hR p1.l hk.l)
            · rintro _ x1 M1 ⟨rfl, f1⟩; exact vp_in_nI (by omega) (by decide)
            · rintro _ x1 M1 ⟨rfl, f1⟩
              rw [hnew M1 f1, nI_clamp (by omega), pg_si_at, pk_us, nI_1]
              intro c7
              rw [nI_leI (by omega) (by omega)] at c7
              refine ih2 (_, _) ⟨?_, (p1.same (rm_same.ev f1)).same (rm_same.a (by simp)), (p2.trans (rm_X.ev f1)).trans (pg_fr.si (by simp [rm_X])), hrow M1 f1⟩
              show nI _ = nI _
              simp only [sp_mo]
              congr 1
              omega
            · rintro _ x1 M1 ⟨rfl, f1⟩
              rw [hnew M1 f1, nI_clamp (by omega), pg_si_at, pk_us, nI_1]
              intro c7
              rw [nI_leI (by omega) (by omega)] at c7
              refine ih2 (_, _) ⟨?_, (p1.same (rm_same.ev f1)).same (rm_same.a (by simp)), (p2.trans (rm_X.ev f1)).trans (pg_fr.si (by simp [rm_X])), hrow M1 f1⟩
              show nI _ = nI _
              simp only [sp_mo]
              congr 1
              omega
        · rintro i m hi10 ⟨n1, n2, n3⟩ ih2
          have c8 : ¬ (10 : Int32) ≤ nI i := nI_ge (b := 10) hi10 (by decide)
          refine sX11_ask_41 hR (fun c => absurd c c8) (fun _ => vp_in_nI hi10 (by decide)) (fun _ => ?_)
          rw [nI_1, nI_clamp (by omega)]
          refine ih2 _ ⟨n1.same (rm_same.a (by simp)), n2.trans (pg_fr.si (by simp [rm_X])), fun v hv => ?_⟩
          rw [pg_si_at]
          by_cases q : v = i
          · subst q; rw [pk_us]
          · rw [pk_un q]; exact n3 v (by omega)
    · rintro x1 M1 ⟨rfl, rfl⟩ c1; rw [hi] at c1; exact absurd c1 (show ¬ (1 : Int32) = 0 by decide)
end PGR
