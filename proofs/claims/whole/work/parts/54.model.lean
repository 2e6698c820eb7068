/-! the reference: states copied, kept, begun; done by hand -/
theorem pg_sa_id (M : pg_M) (a : Nat) : pg_sa M a (M.1 a) = M := by
  unfold pg_sa
  refine Prod.ext ?_ rfl
  funext b
  by_cases h : b = a
  · subst h; simp
  · simp [h]
theorem pg_si_sa (M : pg_M) (a k : Nat) (f : Nat → Int32) (v : Int32) : pg_si (pg_sa M a f) a k v = pg_sa M a (upd f k v) := by
  unfold pg_sa pg_si
  refine Prod.ext ?_ rfl
  funext b
  by_cases h : b = a
  · subst h; simp
  · simp [h]
theorem pg_sa_2 (M : pg_M) (a : Nat) (f : Nat → Int32) : (pg_sa M a f).2 = M.2 := rfl
/-- the reference's state row with a stretch copied -/
def rm_cp (M : pg_M) (f t n : Nat) : pg_M := pg_sa M 221 (fb_put (M.1 221) (fun k => M.1 221 (f + k)) t n)
theorem rm_cp_in {M : pg_M} {f t n k : Nat} (h : k < n) : (rm_cp M f t n).1 221 (t + k) = M.1 221 (f + k) := by
  unfold rm_cp
  rw [pg_sa_at, fb_put_in (by omega) (by omega), Nat.add_sub_cancel_left]
theorem rm_cp_out {M : pg_M} {f t n k : Nat} (h : k < t ∨ t + n ≤ k) : (rm_cp M f t n).1 221 k = M.1 221 k := by
  unfold rm_cp
  rw [pg_sa_at, fb_put_out h]
theorem rm_cp_fr {M : pg_M} {f t n : Nat} : pg_fr [221] M (rm_cp M f t n) := pg_fr.sa (by simp)
theorem rm_S.off {M M' : pg_M} {b : Nat} {s : sp_N} (hs : rm_S M b s) (h : ∀ j, b ≤ j → j < b + 28 → M'.1 221 j = M.1 221 j) : rm_S M' b s := by
  obtain ⟨s1, s2, s3, s4⟩ := hs
  refine ⟨by rw [h _ (by omega) (by omega)]; exact s1, by rw [h _ (by omega) (by omega)]; exact s2, fun c hc => ?_, fun p hp => ?_⟩
  · rw [h _ (by omega) (by omega), h _ (by omega) (by omega), h _ (by omega) (by omega)]; exact s3 c hc
  · rw [h _ (by omega) (by omega)]; exact s4 p hp
theorem rm_S.cp {M : pg_M} {f t n : Nat} {s : sp_N} (hn : 28 ≤ n) (hs : rm_S M f s) : rm_S (rm_cp M f t n) t s := by
  obtain ⟨s1, s2, s3, s4⟩ := hs
  have h0 := rm_cp_in (M := M) (f := f) (t := t) (n := n) (k := 0) (by omega)
  refine ⟨by rw [Nat.add_zero] at h0; rw [h0]; exact s1, by rw [rm_cp_in (by omega)]; exact s2, fun c hc => ?_, fun p hp => ?_⟩
  · rw [show t + 2 + c = t + (2 + c) by omega, show t + 8 + c = t + (8 + c) by omega, show t + 14 + c = t + (14 + c) by omega, rm_cp_in (by omega), rm_cp_in (by omega), rm_cp_in (by omega), ← Nat.add_assoc, ← Nat.add_assoc, ← Nat.add_assoc]; exact s3 c hc
  · rw [show t + 20 + p = t + (20 + p) by omega, rm_cp_in (by omega), ← Nat.add_assoc]; exact s4 p hp
theorem rm_S.cpo {M : pg_M} {f t n b : Nat} {s : sp_N} (h : b + 28 ≤ t ∨ t + n ≤ b) (hs : rm_S M b s) : rm_S (rm_cp M f t n) b s := hs.off (fun j h1 h2 => rm_cp_out (by omega))
/-- what can be undone, the oldest first -/
def rm_us (M : pg_M) (us : List sp_N) : Prop := M.1 207 23 = nI us.length ∧ us.length ≤ 16 ∧ ∀ (j : Nat) (t : sp_N), us[j]? = some t → rm_S M (54 * (5 + j)) t
def sp_push (us : List sp_N) (s : sp_N) : List sp_N := (if us.length = 16 then us.tail else us) ++ [s]
/-- fields of the reference other than X, and of its states what is not kept, are as they were -/
def rm_fu (M M' : pg_M) : Prop := pg_fr [207, 221] M M' ∧ (∀ j, j ≠ 23 → M'.1 207 j = M.1 207 j) ∧ M'.2 = M.2 ∧ ∀ j, (j < 270 ∨ 1134 ≤ j) → M'.1 221 j = M.1 221 j
/-- the first so many of a set, as the reference counts them -/
def sp_gf (free many : Nat) : Nat → Nat × Nat
  | 0 => (0, 0)
  | p + 1 => if (sp_gf free many p).2 < many ∧ free.testBit p = true then ((sp_gf free many p).1 ||| 2 ^ p, (sp_gf free many p).2 + 1) else sp_gf free many p
set_option maxRecDepth 100000 in
theorem sp_gf_ff2 : ∀ f, f < 256 → (if sp_pc (sp_gf f 2 8).1 = 2 then (sp_gf f 2 8).1 else 0) = sp_ff f 2 := fun f hf => co_dec (N := 256) (P := fun f => (if sp_pc (sp_gf f 2 8).1 = 2 then (sp_gf f 2 8).1 else 0) = sp_ff f 2) (by decide +kernel) hf
set_option maxRecDepth 100000 in
theorem sp_gf_ff4 : ∀ f, f < 256 → (if sp_pc (sp_gf f 4 8).1 = 4 then (sp_gf f 4 8).1 else 0) = sp_ff f 4 := fun f hf => co_dec (N := 256) (P := fun f => (if sp_pc (sp_gf f 4 8).1 = 4 then (sp_gf f 4 8).1 else 0) = sp_ff f 4) (by decide +kernel) hf
theorem sp_gf_lt (free many : Nat) : ∀ p, (sp_gf free many p).1 < 2 ^ p ∧ (sp_gf free many p).2 ≤ p := by
  intro p
  induction p with
  | zero => simp [sp_gf]
  | succ p ih =>
    simp only [sp_gf]
    have h2 : 2 ^ p < 2 ^ (p + 1) := Nat.pow_lt_pow_right (by decide) (by omega)
    split
    · exact ⟨Nat.or_lt_two_pow (by omega) h2, by have := ih.2; simp only; omega⟩
    · exact ⟨by omega, by omega⟩
def sp_does (L s : sp_N) (what a set : Nat) : Option sp_N := if what = 0 then sp_hang L s (nI a) (nI set) else if what = 1 then sp_take L s (nI a) else if what = 2 then (sp_wash L s (nI a)).map (fun q => q.2) else sp_buy s (nI a)
section PGR
variable {S : pg_S} {Λ : pg_L} {d b h : Nat} {M : pg_M} {L s : sp_N} {E : sp_E}
theorem rm_copies {f t n : Nat} (h1 : f + n ≤ 1242) (h2 : t + n ≤ 1242) (hd : f + n ≤ t ∨ t + n ≤ f) (hR : pg_isX11 Λ) : pg_Ev S Λ YX11_copies d [.ref 207, .int (nI f), .int (nI t), .int (nI n)] M (fun r M' => r = none ∧ M' = rm_cp M f t n) := by
  refine oX11_copies (sX11_copies_0 ?_)
  refine pg_loop (fun i (m : pg_M) => pg_At S Λ YX11_copies d 3 [(0, .ref 207), (1, .int (nI f)), (2, .int (nI t)), (3, .int (nI n)), (4, .int (nI i))] [] m _) (fun i m => m = rm_cp M f t i) n ?_ ?_ 0 M (Nat.zero_le _) ?_
  · rintro m rfl
    exact sX11_copies_3 hR (fun _ => ⟨rfl, rfl⟩) (fun c => absurd (nI_le (Nat.le_refl n) (by omega)) c) (fun c => absurd (nI_le (Nat.le_refl n) (by omega)) c) (fun c => absurd (nI_le (Nat.le_refl n) (by omega)) c)
  · rintro i m hi rfl ih
    have c9 : ¬ nI n ≤ nI i := nI_ge hi (by omega)
    refine sX11_copies_3 hR (fun c => absurd c c9) (fun _ => ?_) (fun _ => ?_) (fun _ => ?_)
    · rw [nI_add]; exact vp_in_nI (by omega) (by decide)
    · rw [nI_add]; exact vp_in_nI (by omega) (by decide)
    · rw [nI_add, nI_add, nI_clamp (by omega), nI_clamp (by omega), nI_1, rm_cp_out (by omega)]
      refine ih _ ?_
      unfold rm_cp
      rw [pg_si_sa, fb_put_succ (M.1 221) (fun k => M.1 221 (f + k)) t i]
  · unfold rm_cp; rw [fb_put_0, pg_sa_id]
theorem rm_starts (hb : b + 28 ≤ 1242) (hR : pg_isX11 Λ) (hl : rm_L M L E) (hk : sp_okL L E) : pg_Ev S Λ YX11_starts d [.ref 207, .int (nI b)] M (fun r M' => r = none ∧ (rm_S M' b (sp_start L) ∧ pg_fr [221] M M' ∧ ∀ j, (j < b ∨ b + 28 ≤ j) → M'.1 221 j = M.1 221 j)) := by
  have h8 := hk.2.2.2.2.2.1
  refine oX11_starts (sX11_starts_0 ?_)
  refine pg_loop (fun i (m : pg_M) => pg_At S Λ YX11_starts d 2 [(0, .ref 207), (1, .int (nI b)), (2, .int (nI i))] [] m _) (fun i m => m = pg_sa M 221 (fb_put (M.1 221) (fun _ => 0) b i)) 28 ?_ ?_ 0 M (Nat.zero_le _) (by rw [fb_put_0, pg_sa_id])
  · rintro m rfl
    refine sX11_starts_2 hR (fun _ => ?_) (fun _ => ?_) (fun c => absurd (show (28 : Int32) ≤ nI 28 by decide) c) (fun c => absurd (show (28 : Int32) ≤ nI 28 by decide) c)
    · rw [nI_1]; exact vp_in_nI (by omega) (by decide)
    rw [nI_1, nI_clamp (by omega), pg_sa_ne (by decide), tn_1, hl.2.1, pg_si_sa]
    generalize hg : upd (fb_put (M.1 221) (fun _ => 0) b 28) (b + 1) (nI (L 4 4)) = g
    refine pg_loop (fun i (m : pg_M) => pg_At S Λ YX11_starts d 39 [(0, .ref 207), (1, .int (nI b)), (2, .int (nI i))] [] m _) (fun i m => m = pg_sa M 221 (fb_put g (fun k => nI (L 7 k)) (b + 20) i)) (L 4 4) ?_ ?_ 0 _ (Nat.zero_le _) (by rw [fb_put_0])
    · rintro m rfl
      refine sX11_starts_39 hR (fun _ => ?_) ?_ ?_ ?_
      · have hv : ∀ k, (k < b + 20 ∨ b + 20 + L 4 4 ≤ k) → fb_put g (fun k => nI (L 7 k)) (b + 20) (L 4 4) k = g k := fun k q => fb_put_out q
        have hg0 : ∀ k, b ≤ k → k < b + 28 → k ≠ b + 1 → g k = 0 := fun k q1 q2 q3 => by rw [← hg, pk_un q3, fb_put_in q1 (by omega)]
        refine ⟨rfl, ⟨?_, ?_, fun c hc => ⟨?_, ?_, ?_⟩, fun p hp => ?_⟩, pg_fr.sa (by simp), fun j hj => ?_⟩ <;> rw [pg_sa_at]
        · rw [hv _ (by omega), hg0 _ (by omega) (by omega) (by omega)]; simp [sp_start, nI_0]
        · rw [hv _ (by omega), ← hg, pk_us]; simp [sp_start]
        · rw [hv _ (by omega), hg0 _ (by omega) (by omega) (by omega)]; simp [sp_start, nI_0]
        · rw [hv _ (by omega), hg0 _ (by omega) (by omega) (by omega)]; simp [sp_start, nI_0]
        · rw [hv _ (by omega), hg0 _ (by omega) (by omega) (by omega)]; simp [sp_start, nI_0]
        · by_cases hp2 : p < L 4 4
          · rw [fb_put_in (by omega) (by omega), Nat.add_sub_cancel_left]; simp [sp_start, hp2]
          · rw [hv _ (by omega), hg0 _ (by omega) (by omega) (by omega)]; simp [sp_start, hp2, nI_0]
        · rw [hv _ (by omega), ← hg, pk_un (by omega), fb_put_out (by omega)]
      all_goals
        rw [pg_sa_ne (by decide), tn_1, hl.2.1]
        exact fun c => absurd (nI_le (Nat.le_refl _) (by omega)) c
    · rintro i m hi rfl ih
      have c9 : ¬ nI (L 4 4) ≤ nI i := nI_ge hi (by omega)
      have e1 : (68 : Int32) + nI i = nI (68 + i) := by rw [show (68 : Int32) = nI 68 from rfl, nI_add]
      have e2 : nI b + (20 : Int32) + nI i = nI (b + 20 + i) := rm_at (k := 20)
      refine sX11_starts_39 hR ?_ (fun _ => by rw [e1]; exact vp_in_nI (by omega) (by decide)) (fun _ => by rw [e2]; exact vp_in_nI (by omega) (by decide)) (fun _ => ?_)
      · rw [pg_sa_ne (by decide), tn_1, hl.2.1]
        exact fun c => absurd c c9
      · rw [e1, e2, nI_clamp (by omega), nI_clamp (by omega), nI_1, pg_sa_ne (by decide), hl.2.2.2.2.2.2.2.2.1 i hi, pg_si_sa]
        refine ih _ ?_
        rw [fb_put_succ g (fun k => nI (L 7 k)) (b + 20) i]
  · rintro i m hi rfl ih
    have c9 : ¬ (28 : Int32) ≤ nI i := nI_ge (b := 28) hi (by decide)
    refine sX11_starts_2 hR (fun c => absurd c c9) (fun c => absurd c c9) (fun _ => ?_) (fun _ => ?_)
    · rw [nI_add]; exact vp_in_nI (by omega) (by decide)
    · rw [nI_add, nI_clamp (by omega), nI_1, pg_si_sa]
      refine ih _ ?_
      rw [fb_put_succ (M.1 221) (fun _ => 0) b i]
theorem rm_us.fr {M' : pg_M} {us : List sp_N} (h : rm_us M us) (h1 : M'.1 207 23 = M.1 207 23) (h2 : ∀ j, 270 ≤ j → j < 1134 → M'.1 221 j = M.1 221 j) : rm_us M' us := by
  obtain ⟨u1, u2, u3⟩ := h
  refine ⟨by rw [h1]; exact u1, u2, fun j t hj => ?_⟩
  have : j < us.length := (List.getElem?_eq_some_iff.mp hj).1
  exact (u3 j t hj).off (fun i a b => h2 i (by omega) (by omega))
theorem rm_keeps {us : List sp_N} (hR : pg_isX11 Λ) (hs : rm_S M 0 s) (hu : rm_us M us) : pg_Ev S Λ YX11_keeps (d + 1) [.ref 207] M (fun r M' => r = none ∧ (rm_us M' (sp_push us s) ∧ rm_fu M M')) := by
  obtain ⟨u1, u2, u3⟩ := hu
  have e5 : ∀ j, j < 100 → (54 : Int32) * (5 + nI j) = nI (54 * (5 + j)) := fun j hj => by
    rw [show (54 : Int32) = nI 54 from rfl, show (5 : Int32) = nI 5 from rfl, nI_add, pk_mul]
  refine oX11_keeps (sX11_keeps_0 (Q0 := fun M' => M' = rm_cp M 0 (54 * (5 + us.length)) 28) hR ?_ ?_ ?_)
  · intro c
    rw [u1, e5 _ (by omega)]
    have hl : us.length < 16 := by
      rcases Nat.lt_or_ge us.length 16 with q | q
      · exact q
      · exact absurd (by rw [u1, show us.length = 16 by omega]; rfl) c
    exact rm_copies (f := 0) (n := 28) (by omega) (by omega) (by omega) hR
  · rintro c M1 rfl
    have hl : us.length < 16 := by
      rcases Nat.lt_or_ge us.length 16 with q | q
      · exact q
      · exact absurd (by rw [u1, show us.length = 16 by omega]; rfl) c
    have e1 : (rm_cp M 0 (54 * (5 + us.length)) 28).1 207 = M.1 207 := rm_cp_fr.1 207 (by simp)
    rw [e1, u1, nI_1]
    refine ⟨rfl, ⟨?_, ?_, fun j t hj => ?_⟩, ?_, fun j hj => ?_, rfl, fun j hj => ?_⟩
    · rw [pg_si_at, pk_us]; simp [sp_push, show us.length ≠ 16 by omega]
    · simp [sp_push, show us.length ≠ 16 by omega]; omega
    · unfold sp_push at hj
      rw [if_neg (by omega)] at hj
      refine rm_S.off (M := rm_cp M 0 (54 * (5 + us.length)) 28) ?_ (fun i _ _ => by rw [pg_si_ne (by decide)])
      rcases Nat.lt_trichotomy j us.length with q | q | q
      · rw [List.getElem?_append_left q] at hj
        exact (u3 j t hj).cpo (by omega)
      · subst q
        rw [List.getElem?_append_right (Nat.le_refl _), Nat.sub_self] at hj
        cases hj
        exact hs.cp (by omega)
      · rw [List.getElem?_eq_none (by simp; omega)] at hj; cases hj
    · exact (rm_cp_fr.mono (fun x hx => by simp at hx ⊢; omega)).trans (pg_fr.si (by simp))
    · rw [pg_si_at, pk_un hj, e1]
    · rw [pg_si_ne (by decide), rm_cp_out (by omega)]
  · intro c
    have hl : us.length = 16 := by
      rw [u1, show (16 : Int32) = nI 16 from rfl, nI_eq (by omega) (by omega)] at c
      exact c
    have hpush : sp_push us s = us.tail ++ [s] := by unfold sp_push; rw [if_pos hl]
    have htl : us.tail.length = 15 := by simp [hl]
    refine pg_loop (fun i (m : pg_M) => pg_At S Λ YX11_keeps (d + 1) 11 [(0, .ref 207), (1, .int (nI (i + 1)))] [] m _) (fun i m => m.1 207 = M.1 207 ∧ m.2 = M.2 ∧ pg_fr [221] M m ∧ (∀ j, (j < 270 ∨ 1134 ≤ j) → m.1 221 j = M.1 221 j) ∧ ∀ j t, us[j]? = some t → (j ≤ i → 0 < j → rm_S m (54 * (4 + j)) t) ∧ (i < j → rm_S m (54 * (5 + j)) t)) 15 ?_ ?_ 0 M (Nat.zero_le _) ⟨rfl, rfl, pg_fr.rfl', fun _ _ => rfl, fun j t hj => ⟨fun a b => by omega, fun _ => u3 j t hj⟩⟩
    · rintro m ⟨m1, m2, m3, m4, m5⟩
      have hM1 : (pg_si m 207 23 (m.1 207 23 - 1)).1 207 23 = nI 15 := by
        rw [pg_si_at, pk_us, m1, u1, hl]; decide
      refine sX11_keeps_11 (Q0 := fun M' => M' = rm_cp (pg_si m 207 23 (m.1 207 23 - 1)) 0 1080 28) (Q1 := fun _ => True) hR (fun _ => ?_) ?_ (fun c => absurd (show (16 : Int32) ≤ nI (15 + 1) by decide) c) (fun c => absurd (show (16 : Int32) ≤ nI (15 + 1) by decide) c)
      · rw [hM1, e5 _ (by omega)]
        exact rm_copies (f := 0) (t := 1080) (n := 28) (by omega) (by omega) (by omega) hR
      · rintro _ M1 rfl
        have e1 : (rm_cp (pg_si m 207 23 (m.1 207 23 - 1)) 0 1080 28).1 207 = (pg_si m 207 23 (m.1 207 23 - 1)).1 207 := rm_cp_fr.1 207 (by simp)
        have e2 : (pg_si m 207 23 (m.1 207 23 - 1)).1 221 = m.1 221 := by rw [pg_si_ne (by decide)]
        have e3 : ∀ j, (j < 1080 ∨ 1108 ≤ j) → (pg_si (rm_cp (pg_si m 207 23 (m.1 207 23 - 1)) 0 1080 28) 207 23 (nI 16)).1 221 j = m.1 221 j := fun j hj => by
          rw [pg_si_ne (by decide), rm_cp_out (by omega), e2]
        have e4 : (nI 15 + 1 : Int32) = nI 16 := by decide
        rw [e1, hM1, e4]
        refine ⟨rfl, ⟨?_, ?_, fun j t hj => ?_⟩, ?_, fun j hj => ?_, m2, fun j hj => ?_⟩
        · rw [pg_si_at, pk_us, hpush]; simp [hl]
        · rw [hpush]; simp [hl]
        · rw [hpush] at hj
          rcases Nat.lt_or_ge j 15 with q | q
          · rw [List.getElem?_append_left (by omega), List.getElem?_tail] at hj
            rw [show 5 + j = 4 + (j + 1) by omega]
            exact ((m5 (j + 1) t hj).1 (by omega) (by omega)).off (b := 54 * (4 + (j + 1))) (fun i _ _ => e3 i (by omega))
          · rcases Nat.eq_or_lt_of_le q with q | q
            · subst q
              rw [List.getElem?_append_right (by omega), htl] at hj
              cases hj
              have h1 : rm_S (pg_si m 207 23 (m.1 207 23 - 1)) 0 s := hs.off (fun i a b => by rw [e2]; exact m4 i (by omega))
              exact (h1.cp (t := 1080) (n := 28) (by omega)).off (fun i _ _ => by rw [pg_si_ne (by decide)])
            · rw [List.getElem?_eq_none (by simp; omega)] at hj; cases hj
        · exact (((m3.mono (fun x hx => by simp at hx ⊢; omega)).trans (pg_fr.si (by simp))).trans (rm_cp_fr.mono (fun x hx => by simp at hx ⊢; omega))).trans (pg_fr.si (by simp))
        · rw [pg_si_at, pk_un hj, e1, pg_si_at, pk_un hj, m1]
        · rw [e3 j (by omega)]; exact m4 j hj
    · rintro i m hi ⟨m1, m2, m3, m4, m5⟩ ih
      have c9 : ¬ (16 : Int32) ≤ nI (i + 1) := nI_ge (b := 16) (by omega) (by decide)
      refine sX11_keeps_11 (Q0 := fun _ => True) (Q1 := fun M' => M' = rm_cp m (54 * (5 + (i + 1))) (54 * (5 + i)) 28) hR (fun c => absurd c c9) (fun c => absurd c c9) (fun _ => ?_) ?_
      · have e6 : (54 : Int32) * (5 + nI (i + 1) - 1) = nI (54 * (5 + i)) := by
          rw [show (5 : Int32) = nI 5 from rfl, nI_add, show 5 + (i + 1) = 5 + i + 1 by omega, nI_pred, show (54 : Int32) = nI 54 from rfl, pk_mul]
        rw [e5 _ (by omega), e6]
        exact rm_copies (n := 28) (by omega) (by omega) (by omega) hR
      · rintro _ M2 rfl
        rw [nI_1]
        refine ih _ ⟨?_, m2, m3.trans rm_cp_fr, fun j hj => ?_, fun j t hj => ⟨fun a b => ?_, fun a => ?_⟩⟩
        · rw [rm_cp_fr.1 207 (by simp)]; exact m1
        · rw [rm_cp_out (by omega)]; exact m4 j hj
        · have hjl : j < 16 := by rw [← hl]; exact (List.getElem?_eq_some_iff.mp hj).1
          rcases Nat.lt_or_ge j (i + 1) with q | q
          · exact ((m5 j t hj).1 (by omega) b).cpo (by omega)
          · have : j = i + 1 := by omega
            subst this
            have h1 := ((m5 (i + 1) t hj).2 (by omega)).cp (t := 54 * (5 + i)) (n := 28) (by omega)
            rw [show 4 + (i + 1) = 5 + i by omega]
            exact h1
        · have hjl : j < 16 := by rw [← hl]; exact (List.getElem?_eq_some_iff.mp hj).1
          exact ((m5 j t hj).2 (by omega)).cpo (by omega)
end PGR
