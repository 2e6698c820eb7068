/-! the tape: feed of both -/
theorem lo_ush {n k : Nat} (hn : n < 2 ^ 64) (hk : k < 64) : ((((lN n).toUInt64 >>> ((nI k).toInt64.toUInt64 &&& Int64.toUInt64 63)).toInt64) &&& 255).toInt32 = nI (n / 2 ^ k % 256) := by
  rw [wb_shr hn hk, show (255 : Int64) = lN (2 ^ 8 - 1) from rfl, wb_mask (k := 8) (Nat.lt_of_le_of_lt (Nat.div_le_self _ _) hn) (by decide)]
  exact lo_to (by omega)
theorem lo_sar {n k : Nat} (hn : n < 2 ^ 64) (hk : k ≤ 56) : ((lN n >>> ((nI k).toInt64 &&& 63)).toInt32 &&& 255) = nI (n / 2 ^ k % 256) := by
  apply b_ext
  intro i hi
  rw [b_and, b_255, nb_bt hi, show (256 : Nat) = 2 ^ 8 from rfl, Nat.testBit_mod_two_pow]
  by_cases h8 : i < 8
  · simp only [h8, decide_true, Bool.and_true, Bool.true_and]
    unfold bt
    rw [Int64.toBitVec_toInt32, wb_c k (by omega), Int64.toBitVec_shiftRight, wb_tb, wb_tb, wb_sm k (by omega)]
    rw [BitVec.signExtend_eq_setWidth_of_le _ (by decide), BitVec.getLsbD_setWidth]
    show (decide (i < 32) && ((BitVec.ofNat 64 n).sshiftRight (BitVec.ofNat 64 k).toNat).getLsbD i) = _
    rw [BitVec.toNat_ofNat, Nat.mod_eq_of_lt (show k < 2 ^ 64 by omega), BitVec.getLsbD_sshiftRight, BitVec.getLsbD_ofNat]
    rw [Nat.testBit_div_two_pow]
    simp [hi, show ¬ 64 ≤ i by omega, show k + i < 64 by omega, Nat.add_comm]
  · simp [h8]
/-- a sign behind the tape -/
def sp_sign (tp : List Nat) (c : Nat) : List Nat := if (c = 10 ∨ (32 ≤ c ∧ c ≤ 126)) ∧ tp.length < 1000 then tp ++ [c] else tp
def sp_byte (v : Int64) (i : Nat) : Nat := v.toBitVec.toNat / 2 ^ (56 - 8 * i) % 256
def sp_lay (tp : List Nat) (v : Int64) : Nat → List Nat
  | 0 => tp
  | i + 1 => sp_sign (sp_lay tp v i) (sp_byte v i)
def sp_feed (tp : List Nat) (a b c : Int64) : List Nat := sp_lay (sp_lay (sp_lay tp a 8) b 8) c 8
def sp_qfeed (G : sp_G) (a b c : Int64) : Int32 × sp_G := (nI (sp_feed G.tp a b c).length, G.tape (sp_feed G.tp a b c))
theorem sp_sign_len {tp : List Nat} {c : Nat} (h : tp.length ≤ 1000) : (sp_sign tp c).length ≤ 1000 := by
  unfold sp_sign
  split
  · simp; omega
  · exact h
theorem sp_lay_len {tp : List Nat} {v : Int64} (h : tp.length ≤ 1000) : ∀ i, (sp_lay tp v i).length ≤ 1000 := by
  intro i
  induction i with
  | zero => exact h
  | succ i ih => exact sp_sign_len ih
theorem sp_feed_len {tp : List Nat} {a b c : Int64} (h : tp.length ≤ 1000) : (sp_feed tp a b c).length ≤ 1000 := sp_lay_len (sp_lay_len (sp_lay_len h 8) 8) 8
theorem sp_sign_ok {tp : List Nat} {c : Nat} (h : ∀ x, x ∈ tp → x = 10 ∨ (32 ≤ x ∧ x ≤ 126)) : ∀ x, x ∈ sp_sign tp c → x = 10 ∨ (32 ≤ x ∧ x ≤ 126) := by
  unfold sp_sign
  split
  · rename_i q
    intro x hx
    rcases List.mem_append.mp hx with h1 | h1
    · exact h x h1
    · simp at h1; subst h1; exact q.1
  · exact h
theorem sp_lay_ok {tp : List Nat} {v : Int64} (h : ∀ x, x ∈ tp → x = 10 ∨ (32 ≤ x ∧ x ≤ 126)) : ∀ i x, x ∈ sp_lay tp v i → x = 10 ∨ (32 ≤ x ∧ x ≤ 126) := by
  intro i
  induction i with
  | zero => exact h
  | succ i ih => exact sp_sign_ok ih
theorem sp_feed_ok {tp : List Nat} {a b c : Int64} (h : ∀ x, x ∈ tp → x = 10 ∨ (32 ≤ x ∧ x ≤ 126)) : ∀ x, x ∈ sp_feed tp a b c → x = 10 ∨ (32 ≤ x ∧ x ≤ 126) := sp_lay_ok (sp_lay_ok (sp_lay_ok h 8) 8) 8
theorem sp_byte_n {n i : Nat} (hn : n < 2 ^ 64) : sp_byte (lN n) i = n / 2 ^ (56 - 8 * i) % 256 := by unfold sp_byte; rw [wb_tn hn]
/-- how a tape lies in a row of numbers -/
def pg_tp (M : pg_M) (a k r : Nat) (tp : List Nat) : Prop := M.1 a k = nI tp.length ∧ ∀ (j c : Nat), tp[j]? = some c → M.1 r j = nI c
theorem pg_tp.app {M : pg_M} {a k r c : Nat} {tp : List Nat} (har : a ≠ r) (h : pg_tp M a k r tp) : pg_tp (pg_si (pg_si M r tp.length (nI c)) a k (nI (tp.length + 1))) a k r (tp ++ [c]) := by
  refine ⟨by rw [pg_si_at, pk_us]; simp, fun j x hj => ?_⟩
  rw [pg_si_ne (Ne.symm har), pg_si_at]
  by_cases e : j < tp.length
  · rw [List.getElem?_append_left e] at hj
    rw [pk_un (by omega)]; exact h.2 j x hj
  · rw [List.getElem?_append_right (by omega)] at hj
    have := (List.getElem?_eq_some_iff.mp hj).1
    simp at this
    rw [show j - tp.length = 0 by omega] at hj
    simp at hj
    rw [← hj, show j = tp.length by omega, pk_us]
def pg_k56 (i : Nat) : Int32 := if i < 8 then nI (56 - 8 * i) else -8
theorem pg_k56_next {i : Nat} (h : i < 8) : pg_k56 i + (-8) = pg_k56 (i + 1) := by
  unfold pg_k56
  rw [if_pos h]
  by_cases e : i + 1 < 8
  · rw [if_pos e, show 56 - 8 * i = (56 - 8 * (i + 1)) + 8 by omega, ← nI_add, show nI 8 = 8 from rfl, Int32.add_assoc]; simp
  · rw [if_neg e, show 56 - 8 * i = 0 by omega]; rfl
section PGP
variable {S : pg_S} {Λ : pg_L} {d h : Nat} {M : pg_M} {G : sp_G} {tp : List Nat}
theorem rm_lay {v : Int64} (hR : pg_isX11 Λ) (ht : pg_tp M 207 2 208 tp) (hl : tp.length ≤ 1000) : pg_Ev S Λ YX11_lay d [.ref 207, .long v] M (fun r M' => r = none ∧ (pg_tp M' 207 2 208 (sp_lay tp v 8) ∧ pg_fr [207, 208] M M' ∧ ∀ j, j ≠ 2 → M'.1 207 j = M.1 207 j)) := by
  obtain ⟨n, hn, rfl⟩ := wb_of v
  refine oX11_lay (sX11_lay_0 ?_)
  refine pg_loop (fun i (m : pg_M) => pg_At S Λ YX11_lay d 3 [(0, .ref 207), (1, .long (lN n)), (3, .int (pg_k56 i))] [] m _) (fun i m => pg_tp m 207 2 208 (sp_lay tp (lN n) i) ∧ pg_fr [207, 208] M m ∧ ∀ j, j ≠ 2 → m.1 207 j = M.1 207 j) 8 ?_ ?_ 0 M (Nat.zero_le _) ⟨ht, pg_fr.rfl', fun _ _ => rfl⟩
  · rintro m ⟨m1, m2, m3⟩
    have c9 : pg_k56 8 < 0 := by decide
    exact sX11_lay_3 hR (fun _ => ⟨rfl, m1, m2, m3⟩) (fun c => absurd c9 c) (fun c => absurd c9 c) (fun c => absurd c9 c) (fun c => absurd c9 c) (fun c => absurd c9 c) (fun c => absurd c9 c) (fun c => absurd c9 c) (fun c => absurd c9 c)
  · rintro i m hi ⟨m1, m2, m3⟩ ih
    have ll := sp_lay_len (v := lN n) hl i
    have hk : pg_k56 i = nI (56 - 8 * i) := by unfold pg_k56; rw [if_pos hi]
    have hx := pg_k56_next hi
    have c9 : ¬ pg_k56 i < 0 := by rw [hk]; exact nI_pos (by omega)
    have hb : ((lN n >>> ((pg_k56 i).toInt64 &&& 63)).toInt32 &&& 255) = nI (sp_byte (lN n) i) := by rw [hk, lo_sar hn (by omega), sp_byte_n hn]
    have hb9 : sp_byte (lN n) i < 256 := Nat.mod_lt _ (by decide)
    have hs : sp_lay tp (lN n) (i + 1) = sp_sign (sp_lay tp (lN n) i) (sp_byte (lN n) i) := rfl
    generalize sp_lay tp (lN n) i = T at m1 ll hs
    generalize sp_byte (lN n) i = c at hb hb9 hs
    have h10 : nI c = 10 ↔ c = 10 := by rw [show (10 : Int32) = nI 10 from rfl, nI_eq (by omega) (by omega)]
    have h32 : nI c < 32 ↔ c < 32 := by rw [show (32 : Int32) = nI 32 from rfl, nI_ltI (by omega) (by omega)]
    have h126 : (126 : Int32) < nI c ↔ 126 < c := by rw [show (126 : Int32) = nI 126 from rfl, nI_ltI (by omega) (by omega)]
    have h1000 : (1000 : Int32) ≤ m.1 207 2 ↔ 1000 ≤ T.length := by rw [m1.1, show (1000 : Int32) = nI 1000 from rfl, nI_leI (by omega) (by omega)]
    have stay : ¬ ((c = 10 ∨ (32 ≤ c ∧ c ≤ 126)) ∧ T.length < 1000) → pg_At S Λ YX11_lay d 3 [(0, .ref 207), (1, .long (lN n)), (3, .int (pg_k56 i + (-8)))] [] m (fun r M' => r = none ∧ (pg_tp M' 207 2 208 (sp_lay tp (lN n) 8) ∧ pg_fr [207, 208] M M' ∧ ∀ j, j ≠ 2 → M'.1 207 j = M.1 207 j)) := fun q => by
      rw [hx]
      refine ih m ⟨?_, m2, m3⟩
      rw [hs]; unfold sp_sign; rw [if_neg q]; exact m1
    have grow : ((c = 10 ∨ (32 ≤ c ∧ c ≤ 126)) ∧ T.length < 1000) → ∀ N1, N1 = pg_si (pg_si m 208 (m.1 207 2).toNatClampNeg (nI c)) 207 2 (((pg_si m 208 (m.1 207 2).toNatClampNeg (nI c)).1 207 2) + 1) → pg_At S Λ YX11_lay d 3 [(0, .ref 207), (1, .long (lN n)), (3, .int (pg_k56 i + (-8)))] [] N1 (fun r M' => r = none ∧ (pg_tp M' 207 2 208 (sp_lay tp (lN n) 8) ∧ pg_fr [207, 208] M M' ∧ ∀ j, j ≠ 2 → M'.1 207 j = M.1 207 j)) := fun q N1 hN => by
      rw [pg_si_ne (by decide), m1.1, nI_clamp (by omega), nI_1] at hN
      rw [hx]
      refine ih N1 ⟨?_, ?_, ?_⟩
      · rw [hs, hN]; unfold sp_sign; rw [if_pos q]; exact m1.app (by decide)
      · rw [hN]; exact (m2.trans (pg_fr.si (by simp))).trans (pg_fr.si (by simp))
      · intro j hj; rw [hN, pg_si_at, pk_un hj, pg_si_ne (by decide)]; exact m3 j hj
    refine sX11_lay_3 hR (fun c => absurd c c9) ?_ ?_ ?_ ?_ ?_ ?_ ?_ ?_ <;> simp only [hb]
    · intro _ c1 c2; rw [h1000] at c2; exact stay (by omega)
    · intro _ c1 c2; rw [h1000] at c2; rw [m1.1]; exact vp_in_nI (by omega) (by decide)
    · intro _ c1 c2; rw [h1000] at c2; rw [h10] at c1; exact grow (by omega)
    · intro _ c1 c2; rw [h10] at c1; rw [h32] at c2; exact stay (by omega)
    · intro _ c1 c2 c3; rw [h10] at c1; rw [h32] at c2; rw [h126] at c3; exact stay (by omega)
    · intro _ c1 c2 c3 c4; rw [h1000] at c4; exact stay (by omega)
    · intro _ c1 c2 c3 c4; rw [h1000] at c4; rw [m1.1]; exact vp_in_nI (by omega) (by decide)
    · intro _ c1 c2 c3 c4; rw [h1000] at c4; rw [h10] at c1; rw [h32] at c2; rw [h126] at c3; exact grow (by omega)
theorem rm_G.tape {M' : pg_M} {t : List Nat} (hg : rm_G M G) (h1 : ∀ b, b ∈ [213, 214, 215, 218, 221, 222] → M'.1 b = M.1 b) (h2 : ∀ b, b ∈ [212, 216] → M'.2.1 b = M.2.1 b) (h3 : ∀ j, j ∈ [16, 23] → M'.1 207 j = M.1 207 j) (ht : pg_tp M' 207 2 208 t) : rm_G M' (G.tape t) := by
  obtain ⟨gl, gn, gs, gf, gu, gm, gp, gt, gw⟩ := hg
  have h21 := h1 221 (by simp)
  refine ⟨?_, ⟨by rw [h3 16 (by simp)]; exact gn.1, fun c hc => by rw [h2 216 (by simp)]; exact gn.2 c hc⟩, gs.off (fun j a b => by rw [h21]), gf.off (fun j a b => by rw [h21]), gu.fr (h3 23 (by simp)) (fun j a b => by rw [h21]), fun m hm => ⟨by rw [h1 222 (by simp)]; exact (gm m hm).1, fun t f q => ⟨((gm m hm).2 t f q).1.off (fun j a b => by rw [h21]), ((gm m hm).2 t f q).2.off (fun j a b => by rw [h21])⟩⟩, ?_, ht, fun k w q => by rw [h2 212 (by simp)]; exact gw k w q⟩
  · show rm_L M' G.L G.E
    unfold rm_L rm_E rm_U at *
    rw [h1 213 (by simp), h1 214 (by simp), h1 215 (by simp)]
    exact gl
  · show rm_P M' G.pl
    unfold rm_P at *
    rw [h1 218 (by simp)]
    exact gp
theorem rm_feed {a b c : Int64} (hR : pg_isX11 Λ) (hg : rm_G M G) (hk : sp_okG G h) : pg_Ev S Λ YX11_feed (d + 1) [.ref 207, .long a, .long b, .long c] M (fun r M' => ∃ v, r = some (.int v) ∧ (v = (sp_qfeed G a b c).1 ∧ rm_G M' (sp_qfeed G a b c).2 ∧ pg_fr rm_X M M')) := by
  have hg0 := hg.th
  have l0 := hk.t.1
  have l1 := sp_lay_len (v := a) l0 8
  have l2 := sp_lay_len (v := b) l1 8
  have o1 : ∀ {m N : pg_M}, (pg_fr [207, 208] (pg_si M 207 0 0) m ∧ ∀ j, j ≠ 2 → m.1 207 j = (pg_si M 207 0 0).1 207 j) → (pg_fr [207, 208] m N ∧ ∀ j, j ≠ 2 → N.1 207 j = m.1 207 j) → pg_fr [207, 208] (pg_si M 207 0 0) N ∧ ∀ j, j ≠ 2 → N.1 207 j = (pg_si M 207 0 0).1 207 j := fun q r => ⟨q.1.trans r.1, fun j hj => (r.2 j hj).trans (q.2 j hj)⟩
  refine oX11_feed (sX11_feed_0 (Q0 := fun M' => pg_tp M' 207 2 208 (sp_lay G.tp a 8) ∧ pg_fr [207, 208] (pg_si M 207 0 0) M' ∧ ∀ j, j ≠ 2 → M'.1 207 j = (pg_si M 207 0 0).1 207 j) (Q1 := fun M' => pg_tp M' 207 2 208 (sp_lay (sp_lay G.tp a 8) b 8) ∧ pg_fr [207, 208] (pg_si M 207 0 0) M' ∧ ∀ j, j ≠ 2 → M'.1 207 j = (pg_si M 207 0 0).1 207 j) (Q2 := fun M' => pg_tp M' 207 2 208 (sp_feed G.tp a b c) ∧ pg_fr [207, 208] (pg_si M 207 0 0) M' ∧ ∀ j, j ≠ 2 → M'.1 207 j = (pg_si M 207 0 0).1 207 j) hR (rm_lay hR hg0.t l0) ?_ ?_ ?_)
  · rintro M1 ⟨t1, f1⟩
    exact pg_Ev.imp (fun r M' q => ⟨q.1, q.2.1, o1 f1 q.2.2⟩) (rm_lay hR t1 l1)
  · rintro M1 _ M2 ⟨t2, f2⟩
    exact pg_Ev.imp (fun r M' q => ⟨q.1, q.2.1, o1 f2 q.2.2⟩) (rm_lay hR t2 l2)
  · rintro M1 _ M2 _ M3 ⟨t3, f3, f4⟩
    refine ⟨_, rfl, t3.1, hg0.tape (fun b hb => f3.1 b (by simp at hb ⊢; omega)) (fun b hb => f3.2.1 b (by simp at hb ⊢; omega)) (fun j hj => f4 j (by simp at hj; omega)) t3, rm_X.th.trans (rm_X.of f3 (fun x hx => by simp at hx; omega))⟩
theorem rc_addSigns {v : Int64} (hR : pg_isX7 Λ) (ht : pg_tp M 1 1 2 tp) (hl : tp.length ≤ 1000) : pg_Ev S Λ YX7_addSigns d [.ref 1, .long v] M (fun r M' => r = none ∧ (pg_tp M' 1 1 2 (sp_lay tp v 8) ∧ pg_fr [1, 2] M M')) := by
  obtain ⟨n, hn, rfl⟩ := wb_of v
  refine oX7_addSigns (sX7_addSigns_0 ?_)
  refine pg_loop (fun i (m : pg_M) => pg_At S Λ YX7_addSigns d 3 [(0, .ref 1), (1, .long (lN n)), (3, .int (pg_k56 i))] [] m _) (fun i m => pg_tp m 1 1 2 (sp_lay tp (lN n) i) ∧ pg_fr [1, 2] M m) 8 ?_ ?_ 0 M (Nat.zero_le _) ⟨ht, pg_fr.rfl'⟩
  · rintro m ⟨m1, m2⟩
    have c9 : pg_k56 8 < 0 := by decide
    exact sX7_addSigns_3 hR (fun _ => ⟨rfl, m1, m2⟩) (fun c => absurd c9 c) (fun c => absurd c9 c) (fun c => absurd c9 c) (fun c => absurd c9 c) (fun c => absurd c9 c) (fun c => absurd c9 c) (fun c => absurd c9 c) (fun c => absurd c9 c)
  · rintro i m hi ⟨m1, m2⟩ ih
    have ll := sp_lay_len (v := lN n) hl i
    have hk : pg_k56 i = nI (56 - 8 * i) := by unfold pg_k56; rw [if_pos hi]
    have hx := pg_k56_next hi
    have c9 : ¬ pg_k56 i < 0 := by rw [hk]; exact nI_pos (by omega)
    have hb : ((((lN n).toUInt64 >>> ((pg_k56 i).toInt64.toUInt64 &&& Int64.toUInt64 63)).toInt64) &&& 255).toInt32 = nI (sp_byte (lN n) i) := by rw [hk, lo_ush hn (by omega), sp_byte_n hn]
    have hb9 : sp_byte (lN n) i < 256 := Nat.mod_lt _ (by decide)
    have hs : sp_lay tp (lN n) (i + 1) = sp_sign (sp_lay tp (lN n) i) (sp_byte (lN n) i) := rfl
    generalize sp_lay tp (lN n) i = T at m1 ll hs
    generalize sp_byte (lN n) i = c at hb hb9 hs
    have h10 : nI c = 10 ↔ c = 10 := by rw [show (10 : Int32) = nI 10 from rfl, nI_eq (by omega) (by omega)]
    have h32 : nI c < 32 ↔ c < 32 := by rw [show (32 : Int32) = nI 32 from rfl, nI_ltI (by omega) (by omega)]
    have h126 : (126 : Int32) < nI c ↔ 126 < c := by rw [show (126 : Int32) = nI 126 from rfl, nI_ltI (by omega) (by omega)]
    have h1000 : Int32.ofNat 1000 ≤ m.1 1 1 ↔ 1000 ≤ T.length := by rw [m1.1, show Int32.ofNat 1000 = nI 1000 from rfl, nI_leI (by omega) (by omega)]
    have hch : vp_nar .char (((nI c).toUInt32 % 65536).toInt32) = nI c := by
      have := co_dec (N := 256) (P := fun c => vp_nar .char (((nI c).toUInt32 % 65536).toInt32) = nI c) (by decide +kernel) hb9
      exact this
    have stay : ¬ ((c = 10 ∨ (32 ≤ c ∧ c ≤ 126)) ∧ T.length < 1000) → pg_At S Λ YX7_addSigns d 3 [(0, .ref 1), (1, .long (lN n)), (3, .int (pg_k56 i + (-8)))] [] m (fun r M' => r = none ∧ (pg_tp M' 1 1 2 (sp_lay tp (lN n) 8) ∧ pg_fr [1, 2] M M')) := fun q => by
      rw [hx]
      refine ih m ⟨?_, m2⟩
      rw [hs]; unfold sp_sign; rw [if_neg q]; exact m1
    have grow : ((c = 10 ∨ (32 ≤ c ∧ c ≤ 126)) ∧ T.length < 1000) → ∀ N1, N1 = pg_si m 2 (m.1 1 1).toNatClampNeg (nI c) → pg_At S Λ YX7_addSigns d 3 [(0, .ref 1), (1, .long (lN n)), (3, .int (pg_k56 i + (-8)))] [] (pg_si N1 1 1 ((N1.1 1 1) + 1)) (fun r M' => r = none ∧ (pg_tp M' 1 1 2 (sp_lay tp (lN n) 8) ∧ pg_fr [1, 2] M M')) := fun q N1 hN => by
      have e : N1.1 1 1 + 1 = nI (T.length + 1) := by rw [hN, pg_si_ne (by decide), m1.1, nI_1]
      rw [m1.1, nI_clamp (by omega)] at hN
      rw [hx, e, hN]
      refine ih _ ⟨?_, ?_⟩
      · rw [hs]; unfold sp_sign; rw [if_pos q]; exact m1.app (by decide)
      · exact (m2.trans (pg_fr.si (by simp))).trans (pg_fr.si (by simp))
    refine sX7_addSigns_3 hR (fun c => absurd c c9) ?_ ?_ ?_ ?_ ?_ ?_ ?_ ?_ <;> simp only [hb, hch]
    · intro _ c1 c2; rw [h1000] at c2; exact stay (by omega)
    · intro _ c1 c2; rw [h1000] at c2; rw [m1.1]; exact vp_in_nI (by omega) (by decide)
    · intro _ c1 c2; rw [h1000] at c2; rw [h10] at c1; exact grow (by omega)
    · intro _ c1 c2; rw [h10] at c1; rw [h32] at c2; exact stay (by omega)
    · intro _ c1 c2 c3; rw [h10] at c1; rw [h32] at c2; rw [h126] at c3; exact stay (by omega)
    · intro _ c1 c2 c3 c4; rw [h1000] at c4; exact stay (by omega)
    · intro _ c1 c2 c3 c4; rw [h1000] at c4; rw [m1.1]; exact vp_in_nI (by omega) (by decide)
    · intro _ c1 c2 c3 c4; rw [h1000] at c4; rw [h10] at c1; rw [h32] at c2; rw [h126] at c3; exact grow (by omega)
theorem rc_G.tape {M' : pg_M} {t : List Nat} (hg : rc_G M G) (h1 : ∀ b, 3 ≤ b → M'.1 b = M.1 b) (h3 : ∀ b, 3 ≤ b → M'.2.1 b = M.2.1 b) (h4 : M'.2.2 = M.2.2) (ht : pg_tp M' 1 1 2 t) : rc_G M' (G.tape t) := by
  obtain ⟨gd, gl, gn, gs, gf, gu, gm, gp, gt, gz⟩ := hg
  have gdl := gd.l
  have gdp := gd.p
  refine ⟨gd.mv h4, ?_, ?_, gs.fr (fun j hj => h1 _ (by omega)), gf.fr (fun j hj => h1 _ (by omega)), gu.fr (h1 _ (by omega)) (fun b a c => h1 _ (by omega)), gm.fr (h1 _ (by omega)) (fun b a c => h1 _ (by omega)), ?_, ht, ?_⟩
  · show rc_L M' (M'.2.2 0 8) G.L G.E
    rw [h4]
    exact gl.fr (fun j a b c => h1 _ (by omega))
  · show rc_N M' (M'.2.2 0 8) (G.L 4 0) G.nm
    intro c hc
    rw [h4, h3 _ (by omega)]
    exact gn c hc
  · show rc_P M' (M'.2.2 0 10) G.pl
    rw [h4]
    exact gp.fr (by rw [h1 _ (by omega)]) (fun j a b => h1 _ (by omega))
  · show rc_Z M'
    unfold rc_Z at gz ⊢
    rw [h1 156 (by omega), h1 157 (by omega)]
    exact gz
theorem rc_feed {a b c : Int64} (hF : pg_full Λ) (hg : rc_G M G) (hk : sp_okG G h) : pg_Ev S Λ YX10_feed (d + 1) [.ref 0, .long a, .long b, .long c] M (fun r M' => ∃ v, r = some (.int v) ∧ (v = (sp_qfeed G a b c).1 ∧ rc_G M' (sp_qfeed G a b c).2 ∧ rc_out M M')) := by
  have l0 := hk.t.1
  have l1 := sp_lay_len (v := a) l0 8
  have l2 := sp_lay_len (v := b) l1 8
  refine oX10_feed (sX10_feed_0 (Q0 := fun M' => pg_tp M' 1 1 2 (sp_lay G.tp a 8) ∧ pg_fr [1, 2] M M') (Q1 := fun M' => pg_tp M' 1 1 2 (sp_lay (sp_lay G.tp a 8) b 8) ∧ pg_fr [1, 2] M M') (Q2 := fun M' => pg_tp M' 1 1 2 (sp_feed G.tp a b c) ∧ pg_fr [1, 2] M M') hF.x10 hF.x7 (rc_addSigns hF.x7 hg.t l0) ?_ ?_ ?_)
  · rintro M1 ⟨t1, f1⟩
    exact pg_Ev.imp (fun r M' q => ⟨q.1, q.2.1, f1.trans q.2.2⟩) (rc_addSigns hF.x7 t1 l1)
  · rintro M1 _ M2 ⟨t2, f2⟩
    exact pg_Ev.imp (fun r M' q => ⟨q.1, q.2.1, f2.trans q.2.2⟩) (rc_addSigns hF.x7 t2 l2)
  · rintro M1 _ M2 _ M3 ⟨t3, f3⟩
    refine ⟨_, rfl, t3.1, hg.tape (fun b hb => f3.1 b (by simp; omega)) (fun b hb => f3.2.1 b (by simp; omega)) f3.2.2 t3, fun b hb => ⟨f3.1 b (by simp; omega), f3.2.1 b (by simp; omega)⟩⟩
end PGP
