/-! the reference: an hour -/
def rm_fr (b : Nat) (M M' : pg_M) : Prop := pg_fr [219, 220, 221] M M' ∧ ∀ j, (j < b ∨ b + 28 ≤ j) → M'.1 221 j = M.1 221 j
theorem rm_fr.rfl' {b : Nat} {M : pg_M} : rm_fr b M M := ⟨pg_fr.rfl', fun _ _ => rfl⟩
theorem rm_fr.trans {b : Nat} {M M1 M2 : pg_M} (h : rm_fr b M M1) (h2 : rm_fr b M1 M2) : rm_fr b M M2 := ⟨h.1.trans h2.1, fun j hj => (h2.2 j hj).trans (h.2 j hj)⟩
theorem rm_fr.of {b : Nat} {M M1 : pg_M} (h : pg_fr [219, 220] M M1) : rm_fr b M M1 := ⟨h.mono (fun x hx => by simp at hx ⊢; omega), fun j _ => by rw [h.1 221 (by simp)]⟩
theorem rm_fr.set {b k : Nat} {M : pg_M} {v : Int32} (h1 : b ≤ k) (h2 : k < b + 28) : rm_fr b M (pg_si M 221 k v) := ⟨pg_fr.si (by simp), fun j hj => by rw [pg_si_at, pk_un (by omega)]⟩
theorem sp_drop_up (s : sp_N) (c v : Nat) : sp_drop (sp_up s 2 c v) c = sp_drop s c := by
  funext k i
  simp only [sp_drop, sp_up]
  by_cases h1 : k = 1 ∧ i = c
  · simp [h1]
  · by_cases h2 : k = 0 ∧ i = c
    · simp [h2]
    · by_cases h3 : k = 2 ∧ i = c
      · simp [h3]
      · simp [h1, h2, h3]
section PGR
variable {S : pg_S} {Λ : pg_L} {d b h : Nat} {M : pg_M} {L s : sp_N} {E : sp_E}
theorem rm_S.w0 {c v : Nat} (hc : c < 6) (hs : rm_S M b s) : rm_S (pg_si M 221 (b + 2 + c) (nI v)) b (sp_up s 0 c v) := by
  obtain ⟨s1, s2, s3, s4⟩ := hs
  refine ⟨?_, ?_, fun e he => ⟨?_, ?_, ?_⟩, fun p hp => ?_⟩ <;> rw [pg_si_at]
  · rw [pk_un (by omega)]; simpa [sp_up] using s1
  · rw [pk_un (by omega)]; simpa [sp_up] using s2
  · by_cases h1 : e = c
    · subst h1; rw [pk_us]; simp [sp_up]
    · rw [pk_un (by omega)]; simpa [sp_up, h1] using (s3 e he).1
  · rw [pk_un (by omega)]; simpa [sp_up] using (s3 e he).2.1
  · rw [pk_un (by omega)]; simpa [sp_up] using (s3 e he).2.2
  · rw [pk_un (by omega)]; simpa [sp_up] using s4 p hp
theorem rm_S.w1 {c v : Nat} (hc : c < 6) (hs : rm_S M b s) : rm_S (pg_si M 221 (b + 8 + c) (nI v)) b (sp_up s 1 c v) := by
  obtain ⟨s1, s2, s3, s4⟩ := hs
  refine ⟨?_, ?_, fun e he => ⟨?_, ?_, ?_⟩, fun p hp => ?_⟩ <;> rw [pg_si_at]
  · rw [pk_un (by omega)]; simpa [sp_up] using s1
  · rw [pk_un (by omega)]; simpa [sp_up] using s2
  · rw [pk_un (by omega)]; simpa [sp_up] using (s3 e he).1
  · by_cases h1 : e = c
    · subst h1; rw [pk_us]; simp [sp_up]
    · rw [pk_un (by omega)]; simpa [sp_up, h1] using (s3 e he).2.1
  · rw [pk_un (by omega)]; simpa [sp_up] using (s3 e he).2.2
  · rw [pk_un (by omega)]; simpa [sp_up] using s4 p hp
theorem rm_S.w2 {c v : Nat} (hc : c < 6) (hs : rm_S M b s) : rm_S (pg_si M 221 (b + 14 + c) (nI v)) b (sp_up s 2 c v) := by
  obtain ⟨s1, s2, s3, s4⟩ := hs
  refine ⟨?_, ?_, fun e he => ⟨?_, ?_, ?_⟩, fun p hp => ?_⟩ <;> rw [pg_si_at]
  · rw [pk_un (by omega)]; simpa [sp_up] using s1
  · rw [pk_un (by omega)]; simpa [sp_up] using s2
  · rw [pk_un (by omega)]; simpa [sp_up] using (s3 e he).1
  · rw [pk_un (by omega)]; simpa [sp_up] using (s3 e he).2.1
  · by_cases h1 : e = c
    · subst h1; rw [pk_us]; simp [sp_up]
    · rw [pk_un (by omega)]; simpa [sp_up, h1] using (s3 e he).2.2
  · rw [pk_un (by omega)]; simpa [sp_up] using s4 p hp
theorem rm_S.wh {v : Nat} (hs : rm_S M b s) : rm_S (pg_si M 221 b (nI v)) b (sp_up s 4 1 v) := by
  obtain ⟨s1, s2, s3, s4⟩ := hs
  refine ⟨?_, ?_, fun e he => ⟨?_, ?_, ?_⟩, fun p hp => ?_⟩ <;> rw [pg_si_at]
  · rw [pk_us]; simp [sp_up]
  · rw [pk_un (by omega)]; simpa [sp_up] using s2
  · rw [pk_un (by omega)]; simpa [sp_up] using (s3 e he).1
  · rw [pk_un (by omega)]; simpa [sp_up] using (s3 e he).2.1
  · rw [pk_un (by omega)]; simpa [sp_up] using (s3 e he).2.2
  · rw [pk_un (by omega)]; simpa [sp_up] using s4 p hp
theorem rm_gripsOf {bits : Nat} (hb9 : bits < 2 ^ 31) (hb : b + 28 ≤ 1242) (hR : pg_isX11 Λ) (hs : rm_S M b s) (ho : sp_okS L s h) : pg_Ev S Λ YX11_gripsOf d [.ref 207, .int (nI b), .int (nI bits)] M (fun r M' => ∃ v, r = some (.int v) ∧ (v = nI (sp_grips s bits 0) ∧ M' = M)) := by
  have h8 := ho.1
  have hsum : fb_sm (fun p => if bits.testBit p then s 3 p else 0) 8 = sp_grips s bits 0 := by
    unfold sp_grips
    rw [show 8 = s 4 0 + (8 - s 4 0) by omega, fb_sm_split]
    have : fb_sm (fun k => if bits.testBit (s 4 0 + k) then s 3 (s 4 0 + k) else 0) (8 - s 4 0) = 0 := by
      rw [fb_sm_cong (g := fun _ => 0) (fun k _ => by rw [ho.2.2.2.2.1 (s 4 0 + k) (by omega)]; simp), fb_sm_const]; simp
    rw [this]
    simp
  refine oX11_gripsOf (sX11_gripsOf_0 ?_)
  refine pg_loop (fun i (v : Int32) => pg_At S Λ YX11_gripsOf d 5 [(0, .ref 207), (1, .int (nI b)), (2, .int (nI bits)), (3, .int v), (4, .int (nI i))] [] M _) (fun i v => v = nI (fb_sm (fun p => if bits.testBit p then s 3 p else 0) i)) 8 ?_ ?_ 0 0 (Nat.zero_le _) rfl
  · rintro v rfl
    exact sX11_gripsOf_5 hR (fun _ => ⟨_, rfl, by rw [hsum], rfl⟩) (fun c => absurd (show (8 : Int32) ≤ nI 8 by decide) c) (fun c => absurd (show (8 : Int32) ≤ nI 8 by decide) c) (fun c => absurd (show (8 : Int32) ≤ nI 8 by decide) c)
  · rintro i v hi rfl ih
    have c9 : ¬ (8 : Int32) ≤ nI i := nI_ge (b := 8) hi (by decide)
    have e : nI b + (20 : Int32) + nI i = nI (b + 20 + i) := rm_at (k := 20)
    have hv : M.1 221 (nI b + (20 : Int32) + nI i).toNatClampNeg = nI (s 3 i) := by rw [e, nI_clamp (by omega)]; exact hs.2.2.2 i hi
    refine sX11_gripsOf_5 hR (fun c => absurd c c9) (fun _ c => ?_) (fun _ _ => by rw [e]; exact vp_in_nI (by omega) (by decide)) (fun _ c => ?_)
    · rw [nb_bit' hb9 (by omega)] at c
      rw [nI_1, Int32.add_zero]
      exact ih _ (by simp [fb_sm_succ, ts_nt c])
    · rw [nb_bit' hb9 (by omega)] at c
      rw [nI_1, hv, nI_add]
      exact ih _ (by simp [fb_sm_succ, c])
theorem rm_falls {c : Nat} (hc : c < L 4 0) (hb : b + 28 ≤ 1242) (hk : sp_okL L E) (hR : pg_isX11 Λ) (hs : rm_S M b s) (ho : sp_okS L s h) : pg_Ev S Λ YX11_falls d [.ref 207, .int (nI b), .int (nI c)] M (fun r M' => r = none ∧ (rm_S M' b (sp_drop s c) ∧ rm_fr b M M')) := by
  have h6 := hk.1
  have h9 := (ho.2.2.1 c).2.1
  have e2 : nI b + (2 : Int32) + nI c = nI (b + 2 + c) := rm_at (k := 2)
  have e8 : nI b + (8 : Int32) + nI c = nI (b + 8 + c) := rm_at (k := 8)
  have e14 : nI b + (14 : Int32) + nI c = nI (b + 14 + c) := rm_at (k := 14)
  have g1 := (hs.w2 (c := c) (v := 0) (by omega)).w0 (c := c) (v := 9) (by omega)
  have hv : (pg_si (pg_si M 221 (b + 14 + c) 0) 221 (b + 2 + c) 9).1 221 (b + 8 + c) = nI (s 1 c) := by
    rw [pg_si_at, pk_un (by omega), pg_si_at, pk_un (by omega)]; exact (hs.2.2.1 c (by omega)).2.1
  have hfr : ∀ v, rm_fr b M (pg_si (pg_si (pg_si M 221 (b + 14 + c) 0) 221 (b + 2 + c) 9) 221 (b + 8 + c) v) := fun v => ((rm_fr.set (by omega) (by omega)).trans (rm_fr.set (by omega) (by omega))).trans (rm_fr.set (by omega) (by omega))
  refine oX11_falls (sX11_falls_0 hR (by rw [e14]; exact vp_in_nI (by omega) (by decide)) (by rw [e2]; exact vp_in_nI (by omega) (by decide)) (by rw [e8]; exact vp_in_nI (by omega) (by decide)) ?_ ?_)
  · rw [e2, e8, e14, nI_clamp (show b + 2 + c < 2 ^ 31 by omega), nI_clamp (show b + 8 + c < 2 ^ 31 by omega), nI_clamp (show b + 14 + c < 2 ^ 31 by omega), hv]
    rintro c1 N1 rfl
    rw [show (9 : Int32) = nI 9 from rfl, nI_leI (by omega) (by omega)] at c1
    refine ⟨rfl, ?_, hfr _⟩
    rw [show nI (s 1 c) + 0 = nI (min 9 (s 1 c + 1)) by rw [Int32.add_zero, show min 9 (s 1 c + 1) = s 1 c by omega]]
    exact g1.w1 (by omega)
  · rw [e2, e8, e14, nI_clamp (show b + 2 + c < 2 ^ 31 by omega), nI_clamp (show b + 8 + c < 2 ^ 31 by omega), nI_clamp (show b + 14 + c < 2 ^ 31 by omega), hv]
    rintro c1 N1 rfl
    rw [show (9 : Int32) = nI 9 from rfl, nI_leI (by omega) (by omega)] at c1
    refine ⟨rfl, ?_, hfr _⟩
    rw [show nI (s 1 c) + 1 = nI (min 9 (s 1 c + 1)) by rw [nI_1, show min 9 (s 1 c + 1) = s 1 c + 1 by omega]]
    exact g1.w1 (by omega)
theorem rm_loosens {bits : Nat} (hb9 : bits < 2 ^ 31) (hb : b + 28 ≤ 1242) (hR : pg_isX11 Λ) (hs : rm_S M b s) (ho : sp_okS L s h) : pg_Ev S Λ YX11_loosens d [.ref 207, .int (nI b), .int (nI bits)] M (fun r M' => r = none ∧ (rm_S M' b (sp_weak s bits) ∧ rm_fr b M M')) := by
  refine oX11_loosens (sX11_loosens_0 ?_)
  refine pg_loop (fun i (M1 : pg_M) => pg_At S Λ YX11_loosens d 2 [(0, .ref 207), (1, .int (nI b)), (2, .int (nI bits)), (3, .int (nI i))] [] M1 _) (fun i M1 => rm_fr b M M1 ∧ (∀ j, (j < b + 20 ∨ b + 28 ≤ j) → M1.1 221 j = M.1 221 j) ∧ ∀ p, p < 8 → M1.1 221 (b + 20 + p) = nI (if p < i ∧ bits.testBit p = true then s 3 p - 1 else s 3 p)) 8 ?_ ?_ 0 M (Nat.zero_le _) ⟨rm_fr.rfl', fun _ _ => rfl, fun p hp => by simp; exact hs.2.2.2 p hp⟩
  · rintro M1 ⟨hf, hj, hp⟩
    refine sX11_loosens_2 hR (fun _ => ⟨rfl, ?_, hf⟩) (fun c => absurd (show (8 : Int32) ≤ nI 8 by decide) c) (fun c => absurd (show (8 : Int32) ≤ nI 8 by decide) c) (fun c => absurd (show (8 : Int32) ≤ nI 8 by decide) c) (fun c => absurd (show (8 : Int32) ≤ nI 8 by decide) c)
    refine ⟨by rw [hj b (by omega)]; simpa [sp_weak] using hs.1, by rw [hj (b + 1) (by omega)]; simpa [sp_weak] using hs.2.1, fun e he => ?_, fun p hp1 => ?_⟩
    · rw [hj (b + 2 + e) (by omega), hj (b + 8 + e) (by omega), hj (b + 14 + e) (by omega)]; simpa [sp_weak] using hs.2.2.1 e he
    · rw [hp p hp1]; simp [sp_weak, hp1]
  · rintro i M1 hi ⟨hf, hj, hp⟩ ih
    have c9 : ¬ (8 : Int32) ≤ nI i := nI_ge (b := 8) hi (by decide)
    have e : nI b + (20 : Int32) + nI i = nI (b + 20 + i) := rm_at (k := 20)
    have ecl : (nI b + (20 : Int32) + nI i).toNatClampNeg = b + 20 + i := by rw [e, nI_clamp (by omega)]
    have hg : M1.1 221 (b + 20 + i) = nI (s 3 i) := by rw [hp i hi]; simp
    have h9 := ho.2.2.2.1 i
    have keep : ∀ v, v = nI (if bits.testBit i = true then s 3 i - 1 else s 3 i) → rm_fr b M (pg_si M1 221 (b + 20 + i) v) ∧ (∀ j, (j < b + 20 ∨ b + 28 ≤ j) → (pg_si M1 221 (b + 20 + i) v).1 221 j = M.1 221 j) ∧ ∀ p, p < 8 → (pg_si M1 221 (b + 20 + i) v).1 221 (b + 20 + p) = nI (if p < i + 1 ∧ bits.testBit p = true then s 3 p - 1 else s 3 p) := by
      intro v hv
      refine ⟨hf.trans (rm_fr.set (by omega) (by omega)), fun j hj1 => ?_, fun p hp1 => ?_⟩
      · rw [pg_si_at, pk_un (by omega)]; exact hj j hj1
      · rw [pg_si_at]
        by_cases h1 : p = i
        · subst h1; rw [pk_us, hv]; simp
        · rw [pk_un (by omega), hp p hp1]; simp [show p < i + 1 ↔ p < i by omega]
    refine sX11_loosens_2 hR (fun c => absurd c c9) (fun _ => by rw [e]; exact vp_in_nI (by omega) (by decide)) (fun _ c => ?_) (fun _ c c2 => ?_) (fun _ c c2 => ?_)
    · rw [nb_bit' hb9 (by omega)] at c
      rw [nI_1, ecl, hg, Int32.sub_zero]
      exact ih _ (keep _ (by simp [ts_nt c]))
    · rw [nb_bit' hb9 (by omega)] at c
      rw [ecl, hg, ← nI_0, nI_leI (by omega) (by omega)] at c2
      rw [nI_1, ecl, hg, Int32.sub_zero]
      exact ih _ (keep _ (by simp [c]; congr 1; omega))
    · rw [nb_bit' hb9 (by omega)] at c
      rw [ecl, hg, ← nI_0, nI_leI (by omega) (by omega)] at c2
      rw [nI_1, ecl, hg, show (1 : Int32) = nI 1 from rfl, pk_sub (by omega)]
      exact ih _ (keep _ (by simp [c]))
theorem rm_held {set : Nat} (h256 : set < 256) (hb : b + 28 ≤ 1242) (hR : pg_isX11 Λ) (hs : rm_S M b s) (ho : sp_okS L s h) : pg_Ev S Λ YX11_held d [.ref 207, .int (nI b), .int (nI set)] M (fun r M' => ∃ v, r = some (.int v) ∧ (v = nI (set &&& sp_sound s) ∧ M' = M)) := by
  have hm : sp_mk (fun p => set.testBit p && decide (0 < s 3 p)) 8 = set &&& sp_sound s := by
    apply Nat.eq_of_testBit_eq
    intro p
    unfold sp_sound
    rw [Nat.testBit_and, sp_mk_bit, sp_mk_bit]
    by_cases h1 : p < s 4 0
    · have := ho.1
      simp [h1, show p < 8 by omega]
    · have := ho.2.2.2.2.1 p (by omega)
      simp [h1, this]
  refine oX11_held (sX11_held_0 ?_)
  refine pg_loop (fun i (v : Int32) => pg_At S Λ YX11_held d 5 [(0, .ref 207), (1, .int (nI b)), (2, .int (nI set)), (3, .int v), (4, .int (nI i))] [] M _) (fun i v => v = nI (sp_mk (fun p => set.testBit p && decide (0 < s 3 p)) i)) 8 ?_ ?_ 0 0 (Nat.zero_le _) rfl
  · rintro v rfl
    exact sX11_held_5 hR (fun _ => ⟨_, rfl, by rw [hm], rfl⟩) (fun c => absurd (show (8 : Int32) ≤ nI 8 by decide) c) (fun c => absurd (show (8 : Int32) ≤ nI 8 by decide) c) (fun c => absurd (show (8 : Int32) ≤ nI 8 by decide) c) (fun c => absurd (show (8 : Int32) ≤ nI 8 by decide) c)
  · rintro i v hi rfl ih
    have c9 : ¬ (8 : Int32) ≤ nI i := nI_ge (b := 8) hi (by decide)
    have e : nI b + (20 : Int32) + nI i = nI (b + 20 + i) := rm_at (k := 20)
    have hv : M.1 221 (nI b + (20 : Int32) + nI i).toNatClampNeg = nI (s 3 i) := by rw [e, nI_clamp (by omega)]; exact hs.2.2.2 i hi
    have h9 := ho.2.2.2.1 i
    refine sX11_held_5 hR (fun c => absurd c c9) (fun _ c => ?_) (fun _ _ => by rw [e]; exact vp_in_nI (by omega) (by decide)) (fun _ c c2 => ?_) (fun _ c c2 => ?_)
    · rw [nb_bit' (by omega) (by omega)] at c
      rw [nI_1, Int32.or_zero]
      exact ih _ (by simp [sp_mk, ts_nt c])
    · rw [hv, ← nI_0, nI_leI (by omega) (by omega)] at c2
      rw [nI_1, Int32.or_zero]
      exact ih _ (by simp [sp_mk, show ¬ 0 < s 3 i by omega])
    · rw [nb_bit' (by omega) (by omega)] at c
      rw [hv, ← nI_0, nI_leI (by omega) (by omega)] at c2
      rw [nI_1, nb_set (by omega)]
      exact ih _ (by simp [sp_mk, c, show 0 < s 3 i by omega])
theorem rm_S.fr {M' : pg_M} (hs : rm_S M b s) (hf : pg_fr [219, 220] M M') : rm_S M' b s := hs.keep hf (by simp)
theorem rm_L.fr {M' : pg_M} (hl : rm_L M L E) (hf : rm_fr b M M') : rm_L M' L E := hl.keep hf.1 (by simp) (by simp) (by simp)
theorem rm_pulls {c wind : Nat} (hc : c < L 4 0) (hb : b + 28 ≤ 1242) (hR : pg_isX11 Λ) (hs : rm_S M b s) (hl : rm_L M L E) (hk : sp_okL L E) (ho : sp_okS L s h) : pg_Ev S Λ YX11_pulls (d + 3) [.ref 207, .int (nI b), .int (nI c), .int (nI wind)] M (fun r M' => ∃ v, r = some (.int v) ∧ (v = b2i (sp_hit L E s c wind).2 ∧ rm_S M' b (sp_hit L E s c wind).1 ∧ rm_fr b M M')) := by
  have h6 := hk.1
  have h8 := sp_lt8 (c := c) ho
  have hpl := sp_pull_le (L := L) (E := E) (c := c) (wet := s 0 c) (wind := wind)
  have hgl := sp_grips_le (bits := s 2 c) (less := 0) ho
  have e2 : nI b + (2 : Int32) + nI c = nI (b + 2 + c) := rm_at (k := 2)
  have e14 : nI b + (14 : Int32) + nI c = nI (b + 14 + c) := rm_at (k := 14)
  have c2 : (nI b + (2 : Int32) + nI c).toNatClampNeg = b + 2 + c := by rw [e2, nI_clamp (by omega)]
  have c14 : (nI b + (14 : Int32) + nI c).toNatClampNeg = b + 14 + c := by rw [e14, nI_clamp (by omega)]
  have v2 : M.1 221 (b + 2 + c) = nI (s 0 c) := (hs.2.2.1 c (by omega)).1
  have v14 : M.1 221 (b + 14 + c) = nI (s 2 c) := (hs.2.2.1 c (by omega)).2.2
  have hdw : ∀ {x2 x1 : Nat}, x1 ≤ 198 → x2 ≤ 72 → (nI x2 < 2 * nI x1 ↔ x2 < 2 * x1) := fun h1 h2 => by rw [show (2 : Int32) = nI 2 from rfl, pk_mul, nI_ltI (by omega) (by omega)]
  refine oX11_pulls (sX11_pulls_0 (Q0 := fun v M' => v = nI (sp_pull L E c (s 0 c) wind) ∧ pg_fr [219, 220] M M') (Q1 := fun v M' => v = nI (sp_grips s (s 2 c) 0) ∧ pg_fr [219, 220] M M') (Q2 := fun M' => rm_S M' b (sp_weak s (s 2 c)) ∧ rm_fr b M M') (Q3 := fun M' => rm_S M' b (sp_drop (sp_weak s (s 2 c)) c) ∧ rm_fr b M M') (Q4 := fun M' => True) (Q5 := fun v M' => v = nI (s 2 c &&& sp_sound (sp_weak s (s 2 c))) ∧ rm_S M' b (sp_weak s (s 2 c)) ∧ rm_fr b M M') (Q6 := fun _ => True) (Q7 := fun M' => rm_S M' b (sp_drop (sp_weak s (s 2 c)) c) ∧ rm_fr b M M') hR (by rw [e14]; exact vp_in_nI (by omega) (by decide)) (by rw [e2]; exact vp_in_nI (by omega) (by decide)) ?_ ?_ ?_ ?_ ?_ ?_ ?_ ?_ ?_ ?_ ?_ ?_ ?_ ?_ ?_)
  · rw [c2, v2]; exact rm_pullOf hc hR hl hk
  · rintro x1 M1 ⟨rfl, hf⟩
    rw [c14, v14]
    exact pg_Ev.imp (fun r M' q => by obtain ⟨v, g1, g2, rfl⟩ := q; exact ⟨v, g1, g2, hf⟩) (rm_gripsOf (by omega) hb hR (hs.fr hf) ho)
  · rintro x1 M1 ⟨rfl, hf1⟩ x2 M2 ⟨rfl, hf⟩ q1
    rw [c14, v14]
    exact pg_Ev.imp (fun r M' q => by obtain ⟨g1, g2, g3⟩ := q; exact ⟨g1, g2, (rm_fr.of hf).trans g3⟩) (rm_loosens (by omega) hb hR (hs.fr hf) ho)
  · rintro x1 M1 ⟨rfl, hf1⟩ x2 M2 ⟨rfl, hf⟩ q1 M3 ⟨hs3, hf3⟩ q2 _
    exact pg_Ev.imp (fun r M' q => by obtain ⟨g1, g2, g3⟩ := q; exact ⟨g1, g2, hf3.trans g3⟩) (rm_falls hc hb hk hR hs3 ho.weak)
  · rintro x1 M1 ⟨rfl, hf1⟩ x2 M2 ⟨rfl, hf⟩ q1 M3 ⟨hs3, hf3⟩ q2 _ M4 ⟨hs4, hf4⟩
    rw [hdw hpl hgl] at q1
    rw [nI_ltI (by omega) (by omega)] at q2
    have hx : sp_hit L E s c wind = (sp_drop (sp_weak s (s 2 c)) c, true) := by unfold sp_hit; rw [if_neg (by omega), if_pos (Or.inl (by omega))]
    rw [hx]
    exact ⟨_, rfl, rfl, hs4, hf4⟩
  · rintro x1 M1 ⟨rfl, hf1⟩ x2 M2 ⟨rfl, hf⟩ q1 M3 ⟨hs3, hf3⟩ q2 q3; exact absurd q2 q3
  · rintro x1 M1 ⟨rfl, hf1⟩ x2 M2 ⟨rfl, hf⟩ q1 M3 ⟨hs3, hf3⟩ q2 q3; exact absurd q2 q3
  · rintro x1 M1 ⟨rfl, hf1⟩ x2 M2 ⟨rfl, hf⟩ q1 M3 ⟨hs3, hf3⟩ q2 q3; exact absurd q2 q3
  · rintro x1 M1 ⟨rfl, hf1⟩ x2 M2 ⟨rfl, hf⟩ q1 M3 ⟨hs3, hf3⟩ q2
    rw [c14, v14]
    exact pg_Ev.imp (fun r M' q => by obtain ⟨v, g1, g2, rfl⟩ := q; exact ⟨v, g1, g2, hs3, hf3⟩) (rm_held (by omega) hb hR hs3 ho.weak)
  · rintro x1 M1 ⟨rfl, hf1⟩ x2 M2 ⟨rfl, hf⟩ q1 M3 ⟨hs3, hf3⟩ q2 x6 M6 _ q3; exact absurd q3 q2
  · rintro x1 M1 ⟨rfl, hf1⟩ x2 M2 ⟨rfl, hf⟩ q1 M3 ⟨hs3, hf3⟩ q2 x6 M6 _ q3; exact absurd q3 q2
  · rintro x1 M1 ⟨rfl, hf1⟩ x2 M2 ⟨rfl, hf⟩ q1 M3 ⟨hs3, hf3⟩ q2 x6 M6 ⟨rfl, hs6, hf6⟩ _ q4
    rw [hdw hpl hgl] at q1
    rw [nI_ltI (by omega) (by omega)] at q2
    rw [c14] at q4 ⊢
    rw [pg_si_at, pk_us, ← nI_0, nI_eq (Nat.lt_of_le_of_lt Nat.and_le_left (by omega)) (by omega)] at q4
    have hx : sp_hit L E s c wind = (sp_up (sp_weak s (s 2 c)) 2 c (s 2 c &&& sp_sound (sp_weak s (s 2 c))), false) := by
      unfold sp_hit; rw [if_neg (by omega), if_neg (fun q => q.elim (fun q => q (by omega)) q4)]
    rw [hx]
    exact ⟨_, rfl, rfl, hs6.w2 (by omega), hf6.trans (rm_fr.set (by omega) (by omega))⟩
  · rintro x1 M1 ⟨rfl, hf1⟩ x2 M2 ⟨rfl, hf⟩ q1 M3 ⟨hs3, hf3⟩ q2 x6 M6 ⟨rfl, hs6, hf6⟩ _ q4
    rw [c14]
    have := rm_falls (S := S) (Λ := Λ) (d := d + 2) (M := pg_si M6 221 (b + 14 + c) (nI (s 2 c &&& sp_sound (sp_weak s (s 2 c))))) hc hb hk hR (hs6.w2 (v := s 2 c &&& sp_sound (sp_weak s (s 2 c))) (by omega)) (by have := (ho.weak (bits := s 2 c)).sub (v := sp_sound (sp_weak s (s 2 c))) hc; rw [sp_weak_2] at this; exact this)
    rw [sp_drop_up] at this
    exact pg_Ev.imp (fun r M' q => by obtain ⟨g1, g2, g3⟩ := q; exact ⟨g1, g2, (hf6.trans (rm_fr.set (by omega) (by omega))).trans g3⟩) this
  · rintro x1 M1 ⟨rfl, hf1⟩ x2 M2 ⟨rfl, hf⟩ q1 M3 ⟨hs3, hf3⟩ q2 x6 M6 ⟨rfl, hs6, hf6⟩ _ q4 M8 ⟨hs8, hf8⟩
    rw [hdw hpl hgl] at q1
    rw [c14, pg_si_at, pk_us, ← nI_0, nI_eq (Nat.lt_of_le_of_lt Nat.and_le_left (by omega)) (by omega)] at q4
    have hx : sp_hit L E s c wind = (sp_drop (sp_weak s (s 2 c)) c, true) := by unfold sp_hit; rw [if_neg (by omega), if_pos (Or.inr q4)]
    rw [hx]
    exact ⟨_, rfl, rfl, hs8, hf8⟩
  · rintro x1 M1 ⟨rfl, hf1⟩ x2 M2 ⟨rfl, hf⟩ q1
    rw [hdw hpl hgl] at q1
    have hx : sp_hit L E s c wind = (s, false) := by unfold sp_hit; rw [if_pos (by omega)]
    rw [hx]
    exact ⟨_, rfl, rfl, hs.fr hf, rm_fr.of hf⟩
end PGR
