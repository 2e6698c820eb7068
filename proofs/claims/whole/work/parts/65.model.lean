/-! the reference: holds, starts, ask, change -/
def sp_hrs (L : sp_N) (E : sp_E) (s : sp_N) : Nat → sp_N
  | 0 => s
  | n + 1 => (sp_hour L E (sp_hrs L E s n) 0).1
theorem sp_hrs_ok {L s : sp_N} {E : sp_E} {h : Nat} (ho : sp_okS L s h) : ∀ n, sp_okS L (sp_hrs L E s n) (h + n) := by
  intro n
  induction n with
  | zero => exact ho
  | succ n ih => exact ih.pass
def sp_hld (L : sp_N) (E : sp_E) (s : sp_N) (c : Nat) : Option Nat := (List.range 40).find? (fun n => decide (sp_hrs L E s (n + 1) 2 c = 0))
def sp_qholds (G : sp_G) (x : Int32) : Int32 := match sp_ix (G.L 4 0) x with
  | none => -1
  | some c => if G.s 2 c = 0 then -1 else sp_oI ((sp_hld G.L G.E G.s c).map (fun n => n + 1))
def sp_wetb (L : sp_N) (E : sp_E) (c start : Nat) : Nat → Nat
  | 0 => 9
  | n + 1 => sp_dry L E c (sp_wetb L E c start n) (sp_wind L (start + n))
theorem sp_wetb_le {L : sp_N} {E : sp_E} {c start : Nat} : ∀ n, sp_wetb L E c start n ≤ 9 := by
  intro n
  induction n with
  | zero => exact Nat.le_refl _
  | succ n ih => exact Nat.le_trans sp_dry_le ih
def sp_son (L : sp_N) (E : sp_E) (fl : List (Nat × Nat × Nat)) (start : Nat) : Nat → Bool
  | 0 => true
  | k + 1 => sp_son L E fl start k && decide (sp_wetb L E (fl.getD k (0, 0, 0)).1 start (fl.getD k (0, 0, 0)).2.1 = (fl.getD k (0, 0, 0)).2.2)
def sp_stb (L : sp_N) (E : sp_E) (fl : List (Nat × Nat × Nat)) : Nat := sp_mk (fun s => sp_son L E fl s fl.length) (L 4 3)
theorem sp_stb_lt {L : sp_N} {E : sp_E} {fl : List (Nat × Nat × Nat)} (hk : sp_okL L E) : sp_stb L E fl < 4096 := by
  have h1 := sp_mk_lt (fun s => sp_son L E fl s fl.length) (L 4 3)
  have h2 : 2 ^ L 4 3 ≤ 2 ^ 12 := Nat.pow_le_pow_right (by decide) hk.2.2.2.2.1.2
  unfold sp_stb
  omega
/-- of the first i starts in a set, how many are so wet behind n hours -/
def sp_al (L : sp_N) (E : sp_E) (set c n v i : Nat) : Nat := fb_ct (fun s => set.testBit s && decide (sp_wetb L E c s n = v)) i
def sp_mo (L : sp_N) (E : sp_E) (set c n : Nat) : Nat → Nat
  | 0 => 0
  | i + 1 => max (sp_mo L E set c n i) (sp_al L E set c n (sp_wetb L E c i n) (i + 1))
def sp_ask (L : sp_N) (E : sp_E) (set c : Nat) : Nat → Option Nat × Nat
  | 0 => (none, sp_pc set)
  | n + 1 => if sp_mo L E set c n (L 4 3) < (sp_ask L E set c n).2 then (some n, sp_mo L E set c n (L 4 3)) else sp_ask L E set c n
def sp_qask (G : sp_G) (x : Int32) : Int32 := match sp_ix (G.L 4 0) x with
  | none => -1
  | some c => sp_oI (sp_ask G.L G.E (sp_stb G.L G.E G.fl) c 13).1
theorem sp_al_le {L : sp_N} {E : sp_E} {set c n v : Nat} (i : Nat) : sp_al L E set c n v i ≤ i := fb_ct_le _ _
theorem sp_mo_le {L : sp_N} {E : sp_E} {set c n : Nat} : ∀ i, sp_mo L E set c n i ≤ i := by
  intro i
  induction i with
  | zero => exact Nat.le_refl _
  | succ i ih =>
    have := sp_al_le (L := L) (E := E) (set := set) (c := c) (n := n) (v := sp_wetb L E c i n) (i + 1)
    simp only [sp_mo]
    omega
theorem sp_ask_le {L : sp_N} {E : sp_E} {set c : Nat} : ∀ n, (sp_ask L E set c n).2 ≤ 16 ∧ ∀ k, (sp_ask L E set c n).1 = some k → k < n := by
  intro n
  induction n with
  | zero => exact ⟨sp_pc_le _, fun k q => by cases q⟩
  | succ n ih =>
    simp only [sp_ask]
    split
    · rename_i hq
      exact ⟨by simp only; omega, fun k q => by cases q; omega⟩
    · exact ⟨ih.1, fun k q => by have := ih.2 k q; omega⟩
def sp_wbh (L : sp_N) (E : sp_E) (s : sp_N) (n : Nat) : Nat := sp_worth L (sp_laws L (sp_hrs L E s n))
def sp_chg (L : sp_N) (E : sp_E) (s : sp_N) (n : Nat) : Nat → Option Nat × Nat
  | 0 => (none, sp_wbh L E s n)
  | p + 1 => if (sp_chg L E s n p).2 < sp_wbh L E (sp_up s 3 p 9) n then (some p, sp_wbh L E (sp_up s 3 p 9) n) else sp_chg L E s n p
def sp_qchange (G : sp_G) (x : Int32) : Int32 := match sp_ix 21 x with
  | none => -1
  | some n => if n = 0 then -1 else sp_oI (sp_chg G.L G.E G.s n (G.s 4 0)).1
theorem sp_chg_le {L s : sp_N} {E : sp_E} {n : Nat} (hk : sp_okL L E) : ∀ p, (sp_chg L E s n p).2 ≤ 594 := by
  intro p
  induction p with
  | zero => exact sp_worth_le hk _
  | succ p ih =>
    simp only [sp_chg]
    split
    · exact sp_worth_le hk _
    · exact ih
theorem sp_okS.grip {L s : sp_N} {h p v : Nat} (ho : sp_okS L s h) (hp : p < s 4 0) (hv : v ≤ 9) : sp_okS L (sp_up s 3 p v) h := by
  obtain ⟨o1, o2, o3, o4, o5, o6, o7⟩ := ho
  refine ⟨by simpa [sp_up] using o1, by simpa [sp_up] using o2, fun e => ?_, fun q => ?_, fun q hq => ?_, fun e he => ?_, fun e f q hce hb => ?_⟩
  · simpa [sp_up] using o3 e
  · have := o4 q
    simp only [sp_up]
    split <;> omega
  · have hq' : s 4 0 ≤ q := by simpa [sp_up] using hq
    simp only [sp_up]
    rw [if_neg (by omega)]
    exact o5 q hq'
  · simpa [sp_up] using o6 e he
  · simp only [sp_up] at hb ⊢; simp at hb ⊢; exact o7 e f q hce hb
theorem rm_S.w3 {M : pg_M} {b p v : Nat} {s : sp_N} (hp : p < 8) (hs : rm_S M b s) : rm_S (pg_si M 221 (b + 20 + p) (nI v)) b (sp_up s 3 p v) := by
  obtain ⟨s1, s2, s3, s4⟩ := hs
  refine ⟨?_, ?_, fun e he => ⟨?_, ?_, ?_⟩, fun q hq => ?_⟩ <;> rw [pg_si_at]
  · rw [pk_un (by omega)]; simpa [sp_up] using s1
  · rw [pk_un (by omega)]; simpa [sp_up] using s2
  · rw [pk_un (by omega)]; simpa [sp_up] using (s3 e he).1
  · rw [pk_un (by omega)]; simpa [sp_up] using (s3 e he).2.1
  · rw [pk_un (by omega)]; simpa [sp_up] using (s3 e he).2.2
  · by_cases h1 : q = p
    · subst h1; rw [pk_us]; simp [sp_up]
    · rw [pk_un (by omega)]; simpa [sp_up, h1] using s4 q hq
theorem rm_same.ev {M M' : pg_M} (h : pg_fr [219, 220] M M') : rm_same M M' := rm_same.fr h (fun b q => by simp at q ⊢; omega)
theorem rm_X.ev {M M' : pg_M} (h : pg_fr [219, 220] M M') : pg_fr rm_X M M' := rm_X.of h (fun x hx => by simp at hx; omega)
theorem rm_L.ev {M M' : pg_M} {L : sp_N} {E : sp_E} (h : rm_L M L E) (hf : pg_fr [219, 220] M M') : rm_L M' L E := h.keep hf (by simp) (by simp) (by simp)
section PGR
variable {S : pg_S} {Λ : pg_L} {d h : Nat} {M : pg_M} {G : sp_G} {L s : sp_N} {E : sp_E}
theorem rm_holds {x : Int32} (hR : pg_isX11 Λ) (hh : h < 2 ^ 29) (hg : rm_G M G) (hk : sp_okG G h) : pg_Ev S Λ YX11_holds (d + 5) [.ref 207, .int x] M (fun r M' => ∃ v, r = some (.int v) ∧ (v = sp_qholds G x ∧ rm_G M' G ∧ pg_fr rm_X M M')) := by
  have h6 := hk.l.1
  have hg0 := hg.th
  cases hi : sp_ix (G.L 4 0) x with
  | none =>
    have e2 : sp_qholds G x = -1 := by unfold sp_qholds; rw [hi]
    rw [e2]
    refine oX11_holds (sX11_holds_0 (Q0 := fun v M' => v = b2i (sp_ix (G.L 4 0) x).isSome ∧ M' = pg_si M 207 0 0) (Q1 := fun _ _ => True) (Q2 := fun _ => True) hR (pg_Ev.mono (by omega) (rm_isCloth (d := 0) hR hg0.l hk.l)) ?_ ?_ ?_ ?_ ?_)
    · rintro x1 M1 ⟨rfl, rfl⟩ c; exact ⟨_, rfl, rfl, hg0, rm_X.th⟩
    all_goals (rintro x1 M1 ⟨rfl, rfl⟩ c; rw [hi] at c; exact absurd rfl c)
  | some c =>
    obtain ⟨hc, rfl⟩ := (sp_ix_some (by omega)).mp hi
    have hq : sp_qholds G (nI c) = if G.s 2 c = 0 then -1 else sp_oI ((sp_hld G.L G.E G.s c).map (fun n => n + 1)) := by unfold sp_qholds; rw [hi]
    refine oX11_holds (sX11_holds_0 (Q0 := fun v M' => v = b2i (sp_ix (G.L 4 0) (nI c)).isSome ∧ M' = pg_si M 207 0 0) (Q1 := fun v M' => v = b2i (decide (¬ G.s 2 c = 0)) ∧ M' = pg_si M 207 0 0) (Q2 := fun M' => M' = rm_cp (pg_si M 207 0 0) 0 1134 28) hR (pg_Ev.mono (by omega) (rm_isCloth (d := 0) hR hg0.l hk.l)) ?_ ?_ ?_ ?_ ?_)
    · rintro x1 M1 ⟨rfl, rfl⟩ c1; rw [hi] at c1; exact absurd c1 (show ¬ (1 : Int32) = 0 by decide)
    · rintro x1 M1 ⟨rfl, rfl⟩ c1; exact rm_isHung (b := 0) (by omega) (by omega) hR hg0.s hk.s.1
    · rintro x1 M1 ⟨rfl, rfl⟩ c1 x2 M2 ⟨rfl, rfl⟩ c2; exact rm_copies (f := 0) (t := 1134) (n := 28) (by omega) (by omega) (by omega) hR
    · rintro x1 M1 ⟨rfl, rfl⟩ c1 x2 M2 ⟨rfl, rfl⟩ c2 M3 rfl
      rw [b2i_0, decide_eq_false_iff_not, Classical.not_not] at c2
      rw [if_neg c2] at hq
      have hsame : rm_same (pg_si M 207 0 0) (rm_cp (pg_si M 207 0 0) 0 1134 28) := rm_same.st (rm_cp_fr.mono (fun x hx => by simp at hx ⊢; omega)) (fun i hi => rm_cp_out (by omega))
      refine pg_loop (fun i (m : pg_M) => pg_At S Λ YX11_holds (d + 5) 36 [(0, .ref 207), (1, .int (nI c)), (2, .int (nI (i + 1)))] [] m _) (fun i m => rm_S m 1134 (sp_hrs G.L G.E G.s i) ∧ rm_G m G ∧ pg_fr rm_X M m ∧ ∀ j, j < i → sp_hrs G.L G.E G.s (j + 1) 2 c ≠ 0) 40 ?_ ?_ 0 _ (Nat.zero_le _) ⟨hg0.s.cp (by omega), hg0.same hsame, rm_X.th.trans (rm_X.of rm_cp_fr (fun x hx => by simp at hx; omega)), fun j hj => by omega⟩
      · rintro m ⟨m1, m2, m3, m4⟩
        have c9 : (40 : Int32) < nI (40 + 1) := by decide
        refine sX11_holds_36 (Q0 := fun _ _ => True) (Q1 := fun _ _ => True) hR (fun _ => ?_) (fun c => absurd c9 c) (fun c => absurd c9 c) (fun c => absurd c9 c) (fun c => absurd c9 c)
        refine ⟨_, rfl, ?_, m2, m3⟩
        have : sp_hld G.L G.E G.s c = none := by
          unfold sp_hld
          rw [List.find?_range_eq_none]
          intro i hi
          simpa using m4 i hi
        rw [hq, this]; rfl
      · rintro i m hi40 ⟨m1, m2, m3, m4⟩ ih
        have c9 : ¬ (40 : Int32) < nI (i + 1) := by rw [show (40 : Int32) = nI 40 from rfl, nI_ltI (by omega) (by omega)]; omega
        have ok := sp_hrs_ok (E := G.E) hk.s.1 i
        have ok1 := sp_hrs_ok (E := G.E) hk.s.1 (i + 1)
        refine sX11_holds_36 (Q0 := fun v M' => rm_S M' 1134 (sp_hrs G.L G.E G.s (i + 1)) ∧ rm_fr 1134 m M') (Q1 := fun v M' => v = b2i (decide (¬ sp_hrs G.L G.E G.s (i + 1) 2 c = 0)) ∧ rm_S M' 1134 (sp_hrs G.L G.E G.s (i + 1)) ∧ rm_fr 1134 m M') hR (fun c => absurd c c9) (fun _ => ?_) ?_ ?_ ?_
        · exact pg_Ev.imp (fun r M' q => by obtain ⟨v, e1, e2, e3, e4⟩ := q; exact ⟨v, e1, e3, e4⟩) (rm_passes (d := d) (b := 1134) false (by omega) (by omega) hR m1 m2.l hk.l ok)
        · rintro _ x1 M1 ⟨s1, f1⟩
          exact pg_Ev.imp (fun r M' q => by obtain ⟨v, e1, e2, e3⟩ := q; subst e3; exact ⟨v, e1, e2, s1, f1⟩) (rm_isHung (b := 1134) (by omega) (by omega) hR s1 ok1)
        · rintro _ x1 M1 _ x2 M2 ⟨rfl, s2, f2⟩ c3
          rw [nI_1]
          refine ih _ ⟨s2, m2.same (rm_same.tr f2), m3.trans (rm_X.st f2), fun j hj => ?_⟩
          by_cases q : j = i
          · subst q
            have := ts_nf (fun q => c3 (b2i_0.mpr q))
            simpa using this
          · exact m4 j (by omega)
        · rintro _ x1 M1 _ x2 M2 ⟨rfl, s2, f2⟩ c3
          rw [b2i_0, decide_eq_false_iff_not, Classical.not_not] at c3
          refine ⟨_, rfl, ?_, m2.same (rm_same.tr f2), m3.trans (rm_X.st f2)⟩
          have : sp_hld G.L G.E G.s c = some i := by
            unfold sp_hld
            rw [List.find?_range_eq_some]
            exact ⟨by simpa using c3, by simpa using hi40, fun j hj => by simpa using m4 j hj⟩
          rw [hq, this]; rfl
    · rintro x1 M1 ⟨rfl, rfl⟩ c1 x2 M2 ⟨rfl, rfl⟩ c2
      rw [b2i_0, decide_eq_false_iff_not, Classical.not_not] at c2
      rw [if_pos c2] at hq
      exact ⟨_, rfl, hq.symm, hg0, rm_X.th⟩
theorem rm_wetBehind {c st n : Nat} (hc : c < L 4 0) (hst : st + n < 2 ^ 31) (hR : pg_isX11 Λ) (hl : rm_L M L E) (hk : sp_okL L E) : pg_Ev S Λ YX11_wetBehind (d + 3) [.ref 207, .int (nI c), .int (nI st), .int (nI n)] M (fun r M' => ∃ v, r = some (.int v) ∧ (v = nI (sp_wetb L E c st n) ∧ pg_fr [219, 220] M M')) := by
  refine oX11_wetBehind (sX11_wetBehind_0 ?_)
  refine pg_loop (fun i (q : Nat × pg_M) => pg_At S Λ YX11_wetBehind (d + 3) 7 [(0, .ref 207), (1, .int (nI c)), (2, .int (nI st)), (3, .int (nI n)), (4, .int (nI q.1)), (5, .int (nI i))] [] q.2 _) (fun i q => q.1 = sp_wetb L E c st i ∧ pg_fr [219, 220] M q.2) n ?_ ?_ 0 (9, M) (Nat.zero_le _) ⟨rfl, pg_fr.rfl'⟩
  · rintro ⟨v, m⟩ ⟨rfl, m1⟩
    have c9 : nI n ≤ nI n := nI_le (Nat.le_refl _) (by omega)
    exact sX11_wetBehind_7 (Q0 := fun _ _ => True) (Q1 := fun _ _ => True) hR (fun _ => ⟨_, rfl, rfl, m1⟩) (fun c => absurd c9 c) (fun c => absurd c9 c) (fun c => absurd c9 c)
  · rintro i ⟨v, m⟩ hi ⟨rfl, m1⟩ ih
    have c9 : ¬ nI n ≤ nI i := nI_ge hi (by omega)
    have hw := sp_wetb_le (L := L) (E := E) (c := c) (start := st) i
    simp only at m1 ⊢
    refine sX11_wetBehind_7 (Q0 := fun v M' => v = nI (sp_wind L (st + i)) ∧ M' = m) (Q1 := fun v M' => v = nI (sp_wetb L E c st (i + 1)) ∧ pg_fr [219, 220] m M') hR (fun c => absurd c c9) (fun _ => ?_) ?_ ?_
    · rw [nI_add]; exact rm_windOf false (by omega) hR (hl.ev m1) hk
    · rintro _ x1 M1 ⟨rfl, rfl⟩; exact rm_driedOf hc (by omega) hR (hl.ev m1) hk
    · rintro _ x1 M1 ⟨rfl, rfl⟩ x2 M2 ⟨rfl, f2⟩
      rw [nI_1]
      exact ih (_, M2) ⟨rfl, m1.trans f2⟩
theorem rm_startsNow (hR : pg_isX11 Λ) (hg : rm_G M G) (hk : sp_okG G h) : pg_Ev S Λ YX11_startsNow (d + 4) [.ref 207] M (fun r M' => ∃ v, r = some (.int v) ∧ (v = nI (sp_stb G.L G.E G.fl) ∧ pg_fr [219, 220] M M')) := by
  have hw := hk.l.2.2.2.2.1
  have h6 := hk.l.1
  have hf8 := hk.f.1
  have e28 : (28 : Int32).toNatClampNeg = 28 := rfl
  refine oX11_startsNow (sX11_startsNow_0 ?_)
  refine pg_loop (fun i (q : Int32 × pg_M) => pg_At S Λ YX11_startsNow (d + 4) 4 [(0, .ref 207), (1, .int q.1), (2, .int (nI i))] [] q.2 _) (fun i q => q.1 = nI (sp_mk (fun s => sp_son G.L G.E G.fl s G.fl.length) i) ∧ pg_fr [219, 220] M q.2) (G.L 4 3) ?_ ?_ 0 (0, M) (Nat.zero_le _) ⟨rfl, pg_fr.rfl'⟩
  · rintro ⟨v, m⟩ ⟨rfl, m1⟩
    have hm : m.1 213 (2 : Int32).toNatClampNeg = nI (G.L 4 3) := (hg.l.ev m1).2.2.1
    have c9 : nI (G.L 4 3) ≤ nI (G.L 4 3) := nI_le (Nat.le_refl _) (by omega)
    refine sX11_startsNow_4 hR ?_ ?_ <;> simp only [hm]
    · exact fun _ => ⟨_, rfl, rfl, m1⟩
    · exact fun c => absurd c9 c
  · rintro i ⟨v, m⟩ hi ⟨rfl, m1⟩ ih
    have hm : m.1 213 (2 : Int32).toNatClampNeg = nI (G.L 4 3) := (hg.l.ev m1).2.2.1
    have c9 : ¬ nI (G.L 4 3) ≤ nI i := nI_ge hi (by omega)
    simp only at m1 hm ⊢
    refine sX11_startsNow_4 hR ?_ ?_ <;> simp only [hm]
    · exact fun c => absurd c c9
    · intro _
      refine pg_loop (fun k (q : Bool × pg_M) => pg_At S Λ YX11_startsNow (d + 4) 19 [(0, .ref 207), (1, .int (nI (sp_mk (fun s => sp_son G.L G.E G.fl s G.fl.length) i))), (2, .int (nI i)), (3, .int (b2i q.1)), (4, .int (nI k))] [] q.2 _) (fun k q => q.1 = sp_son G.L G.E G.fl i k ∧ pg_fr [219, 220] M q.2) G.fl.length ?_ ?_ 0 (true, m) (Nat.zero_le _) ⟨rfl, m1⟩
      · rintro ⟨b, m'⟩ ⟨rfl, n1⟩
        have hm' : m'.1 221 28 = nI G.fl.length := by rw [n1.1 221 (by simp)]; exact hg.f.1
        have c8 : nI G.fl.length ≤ nI G.fl.length := nI_le (Nat.le_refl _) (by omega)
        refine sX11_startsNow_19 (Q0 := fun _ _ => True) hR ?_ ?_ ?_ ?_ ?_ ?_ ?_ ?_ ?_ <;> simp only [e28, hm']
        · intro _ c1
          rw [nI_1, show (0 : Int32) = nI 0 from rfl, fa_or, Nat.or_zero]
          refine ih (_, m') ⟨?_, n1⟩
          refine congrArg nI (a₂ := sp_mk (fun s => sp_son G.L G.E G.fl s G.fl.length) (i + 1)) ?_
          simp [sp_mk, b2i_0.mp c1]
        · intro _ c1
          rw [nI_1, nb_set (by omega)]
          refine ih (_, m') ⟨?_, n1⟩
          refine congrArg nI (a₂ := sp_mk (fun s => sp_son G.L G.E G.fl s G.fl.length) (i + 1)) ?_
          simp [sp_mk, ts_nf (fun q => c1 (b2i_0.mpr q))]
        all_goals exact fun c => absurd c8 c
      · rintro k ⟨b, m'⟩ hk1 ⟨rfl, n1⟩ ih2
        have hm' : m'.1 221 28 = nI G.fl.length := by rw [n1.1 221 (by simp)]; exact hg.f.1
        have c8 : ¬ nI G.fl.length ≤ nI k := nI_ge hk1 (by omega)
        have hget : G.fl[k]? = some (G.fl.getD k (0, 0, 0)) := by rw [List.getElem?_eq_getElem hk1]; simp [hk1]
        have hson : sp_son G.L G.E G.fl i (k + 1) = (sp_son G.L G.E G.fl i k && decide (sp_wetb G.L G.E (G.fl.getD k (0, 0, 0)).1 i (G.fl.getD k (0, 0, 0)).2.1 = (G.fl.getD k (0, 0, 0)).2.2)) := rfl
        generalize G.fl.getD k (0, 0, 0) = e at hget hson
        obtain ⟨p1, p2, p3⟩ := hg.f.2.2 k e hget
        obtain ⟨o1, o2, o3⟩ := hk.f.2 k e hget
        have x1 : (29 : Int32) + 3 * nI k = nI (29 + 3 * k) := by rw [show (3 : Int32) = nI 3 from rfl, pk_mul, show (29 : Int32) = nI 29 from rfl, nI_add]
        have x2 : nI (29 + 3 * k) + 1 = nI (30 + 3 * k) := by rw [nI_1]; congr 1; omega
        have x3 : nI (29 + 3 * k) + 2 = nI (31 + 3 * k) := by rw [show (2 : Int32) = nI 2 from rfl, nI_add]; congr 1; omega
        rw [Nat.zero_add] at p1 p2 p3
        have y1 : ∀ N : pg_M, pg_fr [219, 220] M N → N.1 221 (29 + 3 * nI k).toNatClampNeg = nI e.1 := fun N q => by rw [x1, nI_clamp (by omega), q.1 221 (by simp)]; exact p1
        have y2 : ∀ N : pg_M, pg_fr [219, 220] M N → N.1 221 (29 + 3 * nI k + 1).toNatClampNeg = nI e.2.1 := fun N q => by rw [x1, x2, nI_clamp (by omega), q.1 221 (by simp)]; exact p2
        have y3 : ∀ N : pg_M, pg_fr [219, 220] M N → N.1 221 (29 + 3 * nI k + 2).toNatClampNeg = nI e.2.2 := fun N q => by rw [x1, x3, nI_clamp (by omega), q.1 221 (by simp)]; exact p3
        have hwl := sp_wetb_le (L := G.L) (E := G.E) (c := e.1) (start := i) e.2.1
        simp only at n1 ⊢
        refine sX11_startsNow_19 (Q0 := fun v M' => v = nI (sp_wetb G.L G.E e.1 i e.2.1) ∧ pg_fr [219, 220] m' M') hR ?_ ?_ ?_ ?_ ?_ ?_ ?_ ?_ ?_ <;> simp only [e28, hm', y1 m' n1, y2 m' n1]
        · exact fun c => absurd c c8
        · exact fun c => absurd c c8
        · intro _ c1
          rw [nI_1]
          exact ih2 (false, m') ⟨by rw [hson, b2i_0.mp c1]; rfl, n1⟩
        · intro _ _; rw [x1]; exact vp_in_nI (by omega) (by decide)
        · intro _ _; rw [x1, x2]; exact vp_in_nI (by omega) (by decide)
        · intro _ _; exact rm_wetBehind o1 (by omega) hR (hg.l.ev n1) hk.l
        · intro _ _ z1 M1 _; rw [x1, x3]; exact vp_in_nI (by omega) (by decide)
        · rintro _ c1 z1 M1 ⟨rfl, f1⟩ c2
          rw [y3 M1 (n1.trans f1), nI_eq (by omega) (by omega)] at c2
          rw [nI_1]
          exact ih2 (false, M1) ⟨by rw [hson]; simp [c2], n1.trans f1⟩
        · rintro _ c1 z1 M1 ⟨rfl, f1⟩ c2
          rw [y3 M1 (n1.trans f1), nI_eq (by omega) (by omega)] at c2
          rw [nI_1]
          exact ih2 (true, M1) ⟨by rw [hson, ts_nf (fun q => c1 (b2i_0.mpr q))]; simp [c2], n1.trans f1⟩
theorem rm_starts' (hR : pg_isX11 Λ) (hg : rm_G M G) (hk : sp_okG G h) : pg_Ev S Λ YX11_starts_ (d + 5) [.ref 207] M (fun r M' => ∃ v, r = some (.int v) ∧ (v = nI (sp_stb G.L G.E G.fl) ∧ rm_G M' G ∧ pg_fr rm_X M M')) := by
  have hg0 := hg.th
  refine oX11_starts_ (sX11_starts__0 (Q0 := fun v M' => v = nI (sp_stb G.L G.E G.fl) ∧ pg_fr [219, 220] (pg_si M 207 0 0) M') hR (rm_startsNow hR hg0 hk) ?_)
  rintro x1 M1 ⟨rfl, f1⟩; exact ⟨_, rfl, rfl, hg0.same (rm_same.ev f1), rm_X.th.trans (rm_X.ev f1)⟩
theorem rm_worthBehind {pg n : Nat} {x : Int32} (t : sp_N) (hx : (x = -1 ∧ t = G.s) ∨ (x = nI pg ∧ pg < G.s 4 0 ∧ t = sp_up G.s 3 pg 9)) (hn : n ≤ 20) (hh : h < 2 ^ 29) (hR : pg_isX11 Λ) (hg : rm_G M G) (hk : sp_okG G h) : pg_Ev S Λ YX11_worthBehind (d + 5) [.ref 207, .int x, .int (nI n)] M (fun r M' => ∃ v, r = some (.int v) ∧ (v = nI (sp_wbh G.L G.E t n) ∧ rm_G M' G ∧ pg_fr rm_X M M')) := by
  have h8 := hk.s.1.1
  have hsame : rm_same M (rm_cp M 0 1134 28) := rm_same.st (rm_cp_fr.mono (fun x hx => by simp at hx ⊢; omega)) (fun i hi => rm_cp_out (by omega))
  have hX : pg_fr rm_X M (rm_cp M 0 1134 28) := rm_X.of rm_cp_fr (fun x hx => by simp at hx; omega)
  have ht : sp_okS G.L t h := by
    rcases hx with ⟨_, rfl⟩ | ⟨_, q, rfl⟩
    · exact hk.s.1
    · exact hk.s.1.grip q (by omega)
  have body : ∀ m, rm_S m 1134 t → rm_G m G → pg_fr rm_X M m → pg_At S Λ YX11_worthBehind (d + 5) 28 [(0, .ref 207), (2, .int (nI n)), (3, .int (nI 0))] [] m (fun r M' => ∃ v, r = some (.int v) ∧ (v = nI (sp_wbh G.L G.E t n) ∧ rm_G M' G ∧ pg_fr rm_X M M')) := by
    intro m m1 m2 m3
    refine pg_loop (fun i (m : pg_M) => pg_At S Λ YX11_worthBehind (d + 5) 28 [(0, .ref 207), (2, .int (nI n)), (3, .int (nI i))] [] m _) (fun i m => rm_S m 1134 (sp_hrs G.L G.E t i) ∧ rm_G m G ∧ pg_fr rm_X M m) n ?_ ?_ 0 m (Nat.zero_le _) ⟨m1, m2, m3⟩
    · rintro m ⟨m1, m2, m3⟩
      have c9 : nI n ≤ nI n := nI_le (Nat.le_refl _) (by omega)
      have hlw := sp_laws_lt (s := sp_hrs G.L G.E t n) hk.l
      refine sX11_worthBehind_28 (Q0 := fun v M' => v = nI (sp_laws G.L (sp_hrs G.L G.E t n)) ∧ M' = m) (Q1 := fun v M' => v = nI (sp_wbh G.L G.E t n) ∧ M' = m) (Q2 := fun _ _ => True) hR (fun _ => ?_) ?_ ?_ (fun c => absurd c9 c) (fun c => absurd c9 c)
      · exact pg_Ev.mono (by omega) (rm_lawsOf (d := 0) (b := 1134) (by omega) hR m1 m2.l hk.l (sp_hrs_ok ht n))
      · rintro _ x1 M1 ⟨rfl, rfl⟩; exact pg_Ev.mono (by omega) (rm_worthOf (d := 0) (by omega) hR m2.l hk.l)
      · rintro _ x1 M1 ⟨rfl, rfl⟩ x2 M2 ⟨rfl, rfl⟩; exact ⟨_, rfl, rfl, m2, m3⟩
    · rintro i m hi ⟨m1, m2, m3⟩ ih
      have c9 : ¬ nI n ≤ nI i := nI_ge hi (by omega)
      refine sX11_worthBehind_28 (Q0 := fun _ _ => True) (Q1 := fun _ _ => True) (Q2 := fun v M' => rm_S M' 1134 (sp_hrs G.L G.E t (i + 1)) ∧ rm_fr 1134 m M') hR (fun c => absurd c c9) (fun c => absurd c c9) (fun c => absurd c c9) (fun _ => ?_) ?_
      · exact pg_Ev.imp (fun r M' q => by obtain ⟨v, e1, e2, e3, e4⟩ := q; exact ⟨v, e1, e3, e4⟩) (rm_passes (d := d) (b := 1134) false (by omega) (by omega) hR m1 m2.l hk.l (sp_hrs_ok ht i))
      · rintro _ x3 M3 ⟨s3, f3⟩
        rw [nI_1]
        exact ih _ ⟨s3, m2.same (rm_same.tr f3), m3.trans (rm_X.st f3)⟩
  refine oX11_worthBehind (sX11_worthBehind_0 (Q0 := fun M' => M' = rm_cp M 0 1134 28) hR (rm_copies (f := 0) (t := 1134) (n := 28) (by omega) (by omega) (by omega) hR) ?_ ?_ ?_)
  · rintro M1 rfl c
    rcases hx with ⟨rfl, rfl⟩ | ⟨rfl, q, rfl⟩
    · exact body _ (hg.s.cp (by omega)) (hg.same hsame) hX
    · exact absurd c (nI_pos (by omega))
  · rintro M1 rfl c
    rcases hx with ⟨rfl, rfl⟩ | ⟨rfl, q, rfl⟩
    · exact absurd (by decide) c
    · rw [show (1154 : Int32) = nI 1154 from rfl, nI_add]; exact vp_in_nI (by omega) (by decide)
  · rintro M1 rfl c
    rcases hx with ⟨rfl, rfl⟩ | ⟨rfl, q, rfl⟩
    · exact absurd (by decide) c
    · rw [show (1154 : Int32) = nI 1154 from rfl, nI_add, nI_clamp (by omega)]
      have hf : rm_fr 1134 (rm_cp M 0 1134 28) (pg_si (rm_cp M 0 1134 28) 221 (1154 + pg) (nI 9)) := rm_fr.set (by omega) (by omega)
      exact body _ (rm_S.w3 (b := 1134) (v := 9) (by omega) (hg.s.cp (by omega))) ((hg.same hsame).same (rm_same.tr hf)) (hX.trans (rm_X.st hf))
theorem rm_change {x : Int32} (hh : h < 2 ^ 29) (hR : pg_isX11 Λ) (hg : rm_G M G) (hk : sp_okG G h) : pg_Ev S Λ YX11_change (d + 6) [.ref 207, .int x] M (fun r M' => ∃ v, r = some (.int v) ∧ (v = sp_qchange G x ∧ rm_G M' G ∧ pg_fr rm_X M M')) := by
  have hg0 := hg.th
  have h8 := hk.s.1.1
  by_cases hx : ∃ n, 0 < n ∧ n < 21 ∧ x = nI n
  · obtain ⟨n, n0, n1, rfl⟩ := hx
    have hwin : decide (¬ nI n < 1 ∧ ¬ (20 : Int32) < nI n) = true := by
      rw [decide_eq_true_eq, show (1 : Int32) = nI 1 from rfl, nI_ltI (by omega) (by omega), show (20 : Int32) = nI 20 from rfl, nI_ltI (by omega) (by omega)]; omega
    have hq : sp_qchange G (nI n) = sp_oI (sp_chg G.L G.E G.s n (G.s 4 0)).1 := by unfold sp_qchange; rw [sp_ix_nI (by decide) n1]; simp only; rw [if_neg (by omega)]
    refine oX11_change (sX11_change_0 (Q0 := fun v M' => v = b2i (decide (¬ nI n < 1 ∧ ¬ (20 : Int32) < nI n)) ∧ M' = pg_si M 207 0 0) (Q1 := fun v M' => v = nI (sp_wbh G.L G.E G.s n) ∧ rm_G M' G ∧ pg_fr rm_X (pg_si M 207 0 0) M') hR rm_within ?_ ?_ ?_)
    · rintro x1 M1 ⟨rfl, rfl⟩ c; exact rm_worthBehind (pg := 0) G.s (Or.inl ⟨rfl, rfl⟩) (by omega) hh hR hg0 hk
    · rintro x1 M1 ⟨rfl, rfl⟩ c x2 M2 ⟨rfl, g2, f2⟩
      refine pg_loop (fun i (q : Int32 × Int32 × pg_M) => pg_At S Λ YX11_change (d + 6) 29 [(0, .ref 207), (1, .int (nI n)), (2, .int q.1), (3, .int q.2.1), (4, .int (nI i))] [] q.2.2 _) (fun i q => q.1 = sp_oI (sp_chg G.L G.E G.s n i).1 ∧ q.2.1 = nI (sp_chg G.L G.E G.s n i).2 ∧ rm_G q.2.2 G ∧ pg_fr rm_X M q.2.2) (G.s 4 0) ?_ ?_ 0 (_, _, M2) (Nat.zero_le _) ⟨rfl, rfl, g2, rm_X.th.trans f2⟩
      · rintro ⟨v2, v3, m⟩ ⟨rfl, rfl, m3, m4⟩
        have hm : m.1 221 (1 : Int32).toNatClampNeg = nI (G.s 4 0) := m3.s.2.1
        have c9 : nI (G.s 4 0) ≤ nI (G.s 4 0) := nI_le (Nat.le_refl _) (by omega)
        refine sX11_change_29 (Q0 := fun _ _ => True) hR ?_ ?_ ?_ ?_ ?_ ?_ <;> simp only [hm]
        · exact fun _ => ⟨_, rfl, hq.symm, m3, m4⟩
        all_goals exact fun c => absurd c9 c
      · rintro i ⟨v2, v3, m⟩ hi ⟨rfl, rfl, m3, m4⟩ ih
        have hm : m.1 221 (1 : Int32).toNatClampNeg = nI (G.s 4 0) := m3.s.2.1
        have c9 : ¬ nI (G.s 4 0) ≤ nI i := nI_ge hi (by omega)
        have l1 := sp_chg_le (s := G.s) (n := n) hk.l i
        have l2 : sp_wbh G.L G.E (sp_up G.s 3 i 9) n ≤ 594 := sp_worth_le hk.l _
        simp only at m3 m4 ⊢
        refine sX11_change_29 (Q0 := fun v M' => v = nI (sp_wbh G.L G.E (sp_up G.s 3 i 9) n) ∧ rm_G M' G ∧ pg_fr rm_X m M') hR ?_ ?_ ?_ ?_ ?_ ?_ <;> simp only [hm]
        · exact fun c => absurd c c9
        · intro _; exact rm_worthBehind (pg := i) _ (Or.inr ⟨rfl, hi, rfl⟩) (by omega) hh hR m3 hk
        · rintro _ x1 M1 ⟨rfl, g1, f1⟩ c1 _
          rw [nI_leI (by omega) (by omega)] at c1
          rw [nI_1]
          have e : sp_chg G.L G.E G.s n (i + 1) = sp_chg G.L G.E G.s n i := by simp only [sp_chg]; rw [if_neg (by omega)]
          exact ih (_, _, M1) ⟨by rw [e] <;> rfl, by rw [e] <;> rfl, g1, m4.trans f1⟩
        · rintro _ x1 M1 ⟨rfl, g1, f1⟩ c1 c2; exact absurd c1 c2
        · rintro _ x1 M1 ⟨rfl, g1, f1⟩ c1 c2; exact absurd c2 c1
        · rintro _ x1 M1 ⟨rfl, g1, f1⟩ c1 _
          rw [nI_leI (by omega) (by omega)] at c1
          rw [nI_1]
          have e : sp_chg G.L G.E G.s n (i + 1) = (some i, sp_wbh G.L G.E (sp_up G.s 3 i 9) n) := by simp only [sp_chg]; rw [if_pos (by omega)]
          exact ih (_, _, M1) ⟨by rw [e] <;> rfl, by rw [e] <;> rfl, g1, m4.trans f1⟩
    · rintro x1 M1 ⟨rfl, rfl⟩ c; rw [hwin] at c; exact absurd c (by decide)
  · have hwin : decide (¬ x < 1 ∧ ¬ (20 : Int32) < x) = false := by
      rw [decide_eq_false_iff_not]
      rintro ⟨a, q⟩
      have h0 : ¬ x < 0 := by rw [fa_lt] at a ⊢; have e1 : (1 : Int32).toInt = 1 := rfl; have e2 : (0 : Int32).toInt = 0 := rfl; omega
      obtain ⟨j, hj, rfl⟩ := nI_of h0
      rw [show (1 : Int32) = nI 1 from rfl, nI_ltI hj (by omega)] at a
      rw [show (20 : Int32) = nI 20 from rfl, nI_ltI (by omega) hj] at q
      exact hx ⟨j, by omega, by omega, rfl⟩
    have hq : sp_qchange G x = -1 := by
      unfold sp_qchange
      cases hi : sp_ix 21 x with
      | none => rfl
      | some n =>
        obtain ⟨a, rfl⟩ := (sp_ix_some (by decide)).mp hi
        simp only
        rw [if_pos]
        rcases Nat.eq_zero_or_pos n with q | q
        · exact q
        · exact absurd ⟨n, q, a, rfl⟩ hx
    refine oX11_change (sX11_change_0 (Q0 := fun v M' => v = b2i (decide (¬ x < 1 ∧ ¬ (20 : Int32) < x)) ∧ M' = pg_si M 207 0 0) (Q1 := fun _ _ => True) hR rm_within ?_ ?_ ?_)
    · rintro x1 M1 ⟨rfl, rfl⟩ c; rw [hwin] at c; exact absurd rfl c
    · rintro x1 M1 ⟨rfl, rfl⟩ c; rw [hwin] at c; exact absurd rfl c
    · rintro x1 M1 ⟨rfl, rfl⟩ c; rw [hq]; exact ⟨_, rfl, rfl, hg0, rm_X.th⟩
end PGR
