/-! the memory's cells as one world of the kit -/
def pg_ws (S : pg_S) (Λ : pg_L) (M : pg_M) : va_W := (List.range 1000).filterMap (fun a => (Λ a).map (fun d => (pg_ad S a, pg_ce S M a d)))
theorem pg_ad_lt {S : pg_S} {a : Nat} (h : a < 1000) : pg_ad S a = S.2.1 + a := by simp [pg_ad, h]
theorem pg_ws_mem {S : pg_S} {Λ : pg_L} {M : pg_M} {q : Nat × va_E} : q ∈ pg_ws S Λ M ↔ ∃ a d, a < 1000 ∧ Λ a = some d ∧ q = (pg_ad S a, pg_ce S M a d) := by
  unfold pg_ws
  rw [List.mem_filterMap]
  constructor
  · rintro ⟨a, ha, h⟩
    cases hd : Λ a with
    | none => rw [hd] at h; cases h
    | some d => rw [hd] at h; exact ⟨a, d, List.mem_range.mp ha, hd, (Option.some.inj h).symm⟩
  · rintro ⟨a, d, ha, hd, rfl⟩
    exact ⟨a, List.mem_range.mpr ha, by rw [hd]; rfl⟩
theorem pg_ws_P {S : pg_S} {Λ : pg_L} {M : pg_M} {H : Heap} (h : pg_R S Λ M H) : va_P S.2.2.1 pg_cls (pg_ws S Λ M) H := by
  intro k q hq
  obtain ⟨a, d, ha, hd, rfl⟩ := pg_ws_mem.mp (List.mem_of_getElem? hq)
  exact (h.1 a d hd).2
theorem pg_ws_D {S : pg_S} {Λ : pg_L} {M : pg_M} : va_D (fun q => S.2.1 ≤ q) (pg_ws S Λ M) := by
  refine ⟨fun i j p q hi hj hpq => ?_, fun k q hq => ?_⟩
  · have hpw : (pg_ws S Λ M).Pairwise (fun x y => x.1 ≠ y.1) := by
      unfold pg_ws
      rw [List.pairwise_filterMap]
      refine List.Pairwise.imp_of_mem ?_ (List.pairwise_lt_range (n := 1000))
      intro a b ha hb hab x hx y hy
      cases hda : Λ a with
      | none => rw [hda] at hx; cases hx
      | some da =>
        cases hdb : Λ b with
        | none => rw [hdb] at hy; cases hy
        | some db =>
          rw [hda] at hx; rw [hdb] at hy
          cases Option.some.inj hx
          cases Option.some.inj hy
          simp only [pg_ad_lt (List.mem_range.mp ha), pg_ad_lt (List.mem_range.mp hb)]
          omega
    have hil := (List.getElem?_eq_some_iff.mp hi)
    have hjl := (List.getElem?_eq_some_iff.mp hj)
    obtain ⟨hi1, hi2⟩ := hil
    obtain ⟨hj1, hj2⟩ := hjl
    rcases Nat.lt_trichotomy i j with h | h | h
    · exact absurd (by rw [hi2, hj2]; exact hpq) (List.pairwise_iff_getElem.mp hpw i j hi1 hj1 h)
    · exact h
    · exact absurd (by rw [hi2, hj2]; exact hpq.symm) (List.pairwise_iff_getElem.mp hpw j i hj1 hi1 h)
  · obtain ⟨a, d, ha, hd, rfl⟩ := pg_ws_mem.mp (List.mem_of_getElem? hq)
    simp only [pg_ad_lt ha]
    omega
theorem pg_ws_at {S : pg_S} {Λ : pg_L} {M : pg_M} {a : Nat} {d : pg_D} (ha : a < 1000) (h : Λ a = some d) : ∃ q : Nat, (pg_ws S Λ M)[q]? = some (pg_ad S a, pg_ce S M a d) :=
  List.getElem?_of_mem (pg_ws_mem.mpr ⟨a, d, ha, h, rfl⟩)
/-- one cell changed -/
theorem pg_R.set {S : pg_S} {Λ : pg_L} {M M' : pg_M} {H H1 : Heap} {a q : Nat} {d : pg_D} {e : va_E} {locs : List Loc} (h : pg_R S Λ M H) (ha : Λ a = some d) (hq : (pg_ws S Λ M)[q]? = some (pg_ad S a, pg_ce S M a d)) (he : e = pg_ce S M' a d) (hne : ∀ b d', b ≠ a → pg_ce S M' b d' = pg_ce S M b d')
    (hP : va_P S.2.2.1 pg_cls ((pg_ws S Λ M).set q (pg_ad S a, e)) H1) (hS : va_S (fun x => S.2.1 ≤ x) H H1 locs) : pg_R S Λ M' H1 := by
  have hql : q < (pg_ws S Λ M).length := (List.getElem?_eq_some_iff.mp hq).1
  refine ⟨fun b d' hb => ⟨(h.1 b d' hb).1, ?_⟩, fun x hx => ?_, Nat.le_trans h.2.2 hS.1⟩
  · by_cases hba : b = a
    · subst hba
      cases Option.some.inj (ha.symm.trans hb)
      have h1 := hP q (pg_ad S b, e) (by rw [List.getElem?_set_self hql])
      rw [he] at h1
      exact h1
    · obtain ⟨r, hr⟩ := pg_ws_at (S := S) (M := M) (h.1 b d' hb).1 hb
      have hrq : q ≠ r := by
        intro hqr
        subst hqr
        have h2 := Option.some.inj (hq.symm.trans hr)
        have h3 : pg_ad S a = pg_ad S b := congrArg Prod.fst h2
        rw [pg_ad_lt (h.1 a d ha).1, pg_ad_lt (h.1 b d' hb).1] at h3
        exact hba (by omega)
      have h1 := hP r (pg_ad S b, pg_ce S M b d') (by rw [List.getElem?_set_ne hrq]; exact hr)
      rw [hne b d' hba]
      exact h1
  · rw [hS.2.1 x (Nat.lt_of_lt_of_le hx h.2.2) (by omega)]
    exact h.2.1 x hx
theorem pg_one {S : pg_S} {Λ : pg_L} {M : pg_M} {H : Heap} {a : Nat} {d : pg_D} (h : pg_R S Λ M H) (ha : Λ a = some d) : va_P S.2.2.1 pg_cls [(pg_ad S a, pg_ce S M a d)] H := by
  intro k q hq
  have hz : k < 1 := (List.getElem?_eq_some_iff.mp hq).1
  rw [show k = 0 by omega] at hq
  cases hq
  exact (h.1 a d ha).2
def pg_si (M : pg_M) (a k : Nat) (v : Int32) : pg_M := (fun b => if b = a then upd (M.1 a) k v else M.1 b, M.2.1, M.2.2)
def pg_sj (M : pg_M) (a k : Nat) (v : Int64) : pg_M := (M.1, fun b => if b = a then vp_updL (M.2.1 a) k v else M.2.1 b, M.2.2)
def pg_sr (M : pg_M) (a k : Nat) (v : Nat) : pg_M := (M.1, M.2.1, fun b => if b = a then (fun j => if j = k then v else M.2.2 a j) else M.2.2 b)
/-- a whole row of ints laid -/
def pg_sa (M : pg_M) (a : Nat) (f : Nat → Int32) : pg_M := (fun b => if b = a then f else M.1 b, M.2.1, M.2.2)
def pg_sl2 (M : pg_M) (a : Nat) (f : Nat → Int64) : pg_M := (M.1, fun b => if b = a then f else M.2.1 b, M.2.2)
theorem pg_fvs_off {M M' : pg_M} {b : Nat} (h1 : M'.1 b = M.1 b) (h2 : M'.2.1 b = M.2.1 b) (h3 : M'.2.2 b = M.2.2 b) (fs : List pg_F) : ∀ i, pg_fvs M' b i fs = pg_fvs M b i fs := by
  induction fs with
  | nil => intro i; rfl
  | cons f fs ih =>
    intro i
    have : pg_fv M' b i f = pg_fv M b i f := by unfold pg_fv; split <;> simp [h1, h2, h3]
    simp [pg_fvs, ih, this]
theorem pg_ce_off {S : pg_S} {M M' : pg_M} {b : Nat} (h1 : M'.1 b = M.1 b) (h2 : M'.2.1 b = M.2.1 b) (h3 : M'.2.2 b = M.2.2 b) (d : pg_D) : pg_ce S M' b d = pg_ce S M b d := by
  unfold pg_ce
  split
  · rw [pg_fvs_off h1 h2 h3]
  · rw [h1]
  · rw [h2]
  · rfl
theorem pg_si_off (S : pg_S) (M : pg_M) (a k : Nat) (v : Int32) : ∀ b d', b ≠ a → pg_ce S (pg_si M a k v) b d' = pg_ce S M b d' := fun b d' h => pg_ce_off (M := M) (M' := pg_si M a k v) (b := b) (by simp [pg_si, h]) rfl rfl d'
theorem pg_sj_off (S : pg_S) (M : pg_M) (a k : Nat) (v : Int64) : ∀ b d', b ≠ a → pg_ce S (pg_sj M a k v) b d' = pg_ce S M b d' := fun b d' h => pg_ce_off (M := M) (M' := pg_sj M a k v) (b := b) rfl (by simp [pg_sj, h]) rfl d'
theorem pg_sr_off (S : pg_S) (M : pg_M) (a k : Nat) (v : Nat) : ∀ b d', b ≠ a → pg_ce S (pg_sr M a k v) b d' = pg_ce S M b d' := fun b d' h => pg_ce_off (M := M) (M' := pg_sr M a k v) (b := b) rfl rfl (by simp [pg_sr, h]) d'
theorem pg_sa_off (S : pg_S) (M : pg_M) (a : Nat) (f : Nat → Int32) : ∀ b d', b ≠ a → pg_ce S (pg_sa M a f) b d' = pg_ce S M b d' := fun b d' h => pg_ce_off (M := M) (M' := pg_sa M a f) (b := b) (by simp [pg_sa, h]) rfl rfl d'
theorem pg_sl2_off (S : pg_S) (M : pg_M) (a : Nat) (f : Nat → Int64) : ∀ b d', b ≠ a → pg_ce S (pg_sl2 M a f) b d' = pg_ce S M b d' := fun b d' h => pg_ce_off (M := M) (M' := pg_sl2 M a f) (b := b) rfl (by simp [pg_sl2, h]) rfl d'
section PGM
variable {S : pg_S} {Λ : pg_L} {Y : pg_Y} {d pc : Nat} {ls ls' : List (Nat × Value)} {st : List Value} {M : pg_M} {P : Option Value → pg_M → Prop} {a : Nat}
theorem pg_VS {locs : List Loc} {H : Heap} (hL : ∀ q ∈ locs, S.2.1 ≤ q.base) : va_S (fun x => S.2.1 ≤ x) H H locs := ⟨Nat.le_refl _, fun _ _ _ => rfl, hL⟩
theorem pg_vals {k : Nat} {fs : List pg_F} {f : pg_F} (hf : fs[k]? = some f) : ((pg_fvs M a 0 fs).map (pg_up S))[k]? = some (pg_up S (pg_fv M a k f)) := by
  simp [List.getElem?_map, pg_fvs_get, hf]
theorem pg_get {ci k N index : Nat} {C : String} {T : u_T} {fs : List pg_F} {f : pg_F} (hΛ : Λ a = some (.inl (ci, fs))) (hf : fs[k]? = some f) (hc : pg_cls[ci]? = some (C, T, N)) (hin : ∀ w ∈ u_ws C T N, w ∈ pg_gd) (hk : k < N) (hlink : Cond.fieldLink Y.1.cls index (T k).1 (T k).2.1 (T k).2.2.1 ∈ pg_gd) (hdg : decode Y.2.1 pc = .ok (.getfield index, 3))
    (kk : pg_At S Λ Y d (pc + 3) ls (pg_fv M a k f :: st) M P) : pg_At S Λ Y d pc ls (.ref a :: st) M P :=
  fun p e s m args below meth c H locs R lj C9 hR hM hL hl => va_get (a := pg_ad S a) C9.1 C9.2.1 C9.2.2.2.2.1 hin C9.2.2.2.1 C9.2.2.2.2.2.1.1 (pg_one hM hΛ) 0 rfl hc k hk (C9.2.2.2.2.1 _ hlink) (fun _ h => h) (pg_vals hf) hdg (kk p e s m args below meth c H locs R lj C9 hR hM hL hl)
theorem pg_getN {ci k N index : Nat} {C host : String} {T : u_T} {fs : List pg_F} {f : pg_F} (hΛ : Λ a = some (.inl (ci, fs))) (hf : fs[k]? = some f) (hc : pg_cls[ci]? = some (C, T, N)) (hin : ∀ w ∈ u_ws C T N, w ∈ pg_gd) (hk : k < N) (hlink : Cond.fieldLinkNest Y.1.cls index (T k).1 (T k).2.1 (T k).2.2.1 host ∈ lw_tbl) (hdg : decode Y.2.1 pc = .ok (.getfield index, 3))
    (kk : pg_At S Λ Y d (pc + 3) ls (pg_fv M a k f :: st) M P) : pg_At S Λ Y d pc ls (.ref a :: st) M P :=
  fun p e s m args below meth c H locs R lj C9 hR hM hL hl => va_getN (a := pg_ad S a) (host := host) C9.1 C9.2.1 C9.2.2.2.2.1 hin C9.2.2.2.1 C9.2.2.2.2.2.1.1 (pg_one hM hΛ) 0 rfl hc k hk (va_Nw.use rfl (C9.2.2.2.2.2.1.2.1 _ hlink rfl)) (fun _ h => h) (pg_vals hf) hdg (kk p e s m args below meth c H locs R lj C9 hR hM hL hl)
theorem pg_setl {k : Nat} {fs : List pg_F} {v : Value} {M' : pg_M} (hv : ∀ j f, fs[j]? = some f → pg_fv M' a j f = if j = k then v else pg_fv M a j f) (hk : k < fs.length) : ((pg_fvs M a 0 fs).map (pg_up S)).set k (pg_up S v) = (pg_fvs M' a 0 fs).map (pg_up S) := by
  apply List.ext_getElem?
  intro j
  rw [List.getElem?_set]
  simp only [List.getElem?_map, pg_fvs_get, List.length_map, pg_fvs_len, Nat.zero_add]
  by_cases hjk : k = j
  · subst hjk
    simp only [if_true, hk]
    obtain ⟨f, hf⟩ : ∃ f, fs[k]? = some f := ⟨fs[k], List.getElem?_eq_getElem hk⟩
    simp [hf, hv k f hf]
  · simp only [hjk, if_false]
    cases hf : fs[j]? with
    | none => simp
    | some f => simp [hv j f hf, Ne.symm hjk]
theorem pg_putG {ci k N index : Nat} {C : String} {T : u_T} {fs : List pg_F} {v : Value} {M' : pg_M} (ty0 : Nat → FieldType) {ty : FieldType} (hΛ : Λ a = some (.inl (ci, fs))) (hc : pg_cls[ci]? = some (C, T, N)) (hin : ∀ w ∈ u_ws C T N, w ∈ pg_gd) (hty : ∀ k, k < N → parseFieldDescriptor (T k).2.2.1 = some (ty0 k)) (hnm : ∀ a, a < N → ∀ b, b < N → a ≠ b → (T a).2.1 ≠ (T b).2.1) (hk : k < N) (hkl : k < fs.length) (hlink : Cond.fieldLink Y.1.cls index (T k).1 (T k).2.1 (T k).2.2.1 ∈ pg_gd) (hfin : (T k).2.2.2 = false) (hd : parseFieldDescriptor (T k).2.2.1 = some ty) (hn : narrow ty (pg_up S v) = pg_up S v) (hfit : fits ty (pg_up S v) = true)
    (hv : ∀ j f, fs[j]? = some f → pg_fv M' a j f = if j = k then v else pg_fv M a j f) (hoff : ∀ b d', b ≠ a → pg_ce S M' b d' = pg_ce S M b d') (hdg : decode Y.2.1 pc = .ok (.putfield index, 3)) (kk : pg_At S Λ Y d (pc + 3) ls st M' P) : pg_At S Λ Y d pc ls (v :: .ref a :: st) M P := by
  intro p e s m args below meth c H locs R lj C9 hR hM hL hl
  obtain ⟨q, hq⟩ := pg_ws_at (S := S) (M := M) (hM.1 a _ hΛ).1 hΛ
  refine va_put (a := pg_ad S a) C9.1 C9.2.1 C9.2.2.2.2.1 hin ty0 hty hnm C9.2.2.2.1 C9.2.2.2.2.2.1.1 (pg_ws_P hM) pg_ws_D (pg_VS hL) q hq hc k hk (C9.2.2.2.2.1 _ hlink) (fun _ h => h) hfin hd hn hfit (by simp [pg_fvs_len, hkl]) hdg (fun H1 locs1 hP1 hD1 hS1 => ?_)
  refine kk p e s m args below meth c H1 locs1 R lj C9 hR (pg_R.set hM hΛ hq ?_ hoff hP1 hS1) hS1.2.2 hl
  rw [pg_setl hv hkl]; rfl
theorem pg_putGN {ci k N index : Nat} {C host : String} {T : u_T} {fs : List pg_F} {v : Value} {M' : pg_M} (ty0 : Nat → FieldType) {ty : FieldType} (hΛ : Λ a = some (.inl (ci, fs))) (hc : pg_cls[ci]? = some (C, T, N)) (hin : ∀ w ∈ u_ws C T N, w ∈ pg_gd) (hty : ∀ k, k < N → parseFieldDescriptor (T k).2.2.1 = some (ty0 k)) (hnm : ∀ a, a < N → ∀ b, b < N → a ≠ b → (T a).2.1 ≠ (T b).2.1) (hk : k < N) (hkl : k < fs.length) (hlink : Cond.fieldLinkNest Y.1.cls index (T k).1 (T k).2.1 (T k).2.2.1 host ∈ lw_tbl) (hfin : (T k).2.2.2 = false) (hd : parseFieldDescriptor (T k).2.2.1 = some ty) (hn : narrow ty (pg_up S v) = pg_up S v) (hfit : fits ty (pg_up S v) = true)
    (hv : ∀ j f, fs[j]? = some f → pg_fv M' a j f = if j = k then v else pg_fv M a j f) (hoff : ∀ b d', b ≠ a → pg_ce S M' b d' = pg_ce S M b d') (hdg : decode Y.2.1 pc = .ok (.putfield index, 3)) (kk : pg_At S Λ Y d (pc + 3) ls st M' P) : pg_At S Λ Y d pc ls (v :: .ref a :: st) M P := by
  intro p e s m args below meth c H locs R lj C9 hR hM hL hl
  obtain ⟨q, hq⟩ := pg_ws_at (S := S) (M := M) (hM.1 a _ hΛ).1 hΛ
  refine va_putN (a := pg_ad S a) (host := host) C9.1 C9.2.1 C9.2.2.2.2.1 hin ty0 hty hnm C9.2.2.2.1 C9.2.2.2.2.2.1.1 (pg_ws_P hM) pg_ws_D (pg_VS hL) q hq hc k hk (va_Nw.use rfl (C9.2.2.2.2.2.1.2.1 _ hlink rfl)) (fun _ h => h) hfin hd hn hfit (by simp [pg_fvs_len, hkl]) hdg (fun H1 locs1 hP1 hD1 hS1 => ?_)
  refine kk p e s m args below meth c H1 locs1 R lj C9 hR (pg_R.set hM hΛ hq ?_ hoff hP1 hS1) hS1.2.2 hl
  rw [pg_setl hv hkl]; rfl
theorem pg_hvi {k : Nat} {fs : List pg_F} {v : Int32} (hf : fs[k]? = some (.inl 0)) : ∀ j f, fs[j]? = some f → pg_fv (pg_si M a k v) a j f = if j = k then .int v else pg_fv M a j f := by
  intro j f hj
  by_cases hjk : j = k
  · subst hjk
    cases Option.some.inj (hf.symm.trans hj)
    simp [pg_fv, pg_si, upd]
  · simp only [hjk, if_false]
    unfold pg_fv
    split <;> simp [pg_si, upd, hjk]
theorem pg_hvj {k : Nat} {fs : List pg_F} {v : Int64} (hf : fs[k]? = some (.inl 1)) : ∀ j f, fs[j]? = some f → pg_fv (pg_sj M a k v) a j f = if j = k then .long v else pg_fv M a j f := by
  intro j f hj
  by_cases hjk : j = k
  · subst hjk
    cases Option.some.inj (hf.symm.trans hj)
    simp [pg_fv, pg_sj, vp_updL]
  · simp only [hjk, if_false]
    unfold pg_fv
    split <;> simp [pg_sj, vp_updL, hjk]
theorem pg_hvr {k : Nat} {fs : List pg_F} {v : Nat} (hf : fs[k]? = some (.inl 2)) : ∀ j f, fs[j]? = some f → pg_fv (pg_sr M a k v) a j f = if j = k then .ref v else pg_fv M a j f := by
  intro j f hj
  by_cases hjk : j = k
  · subst hjk
    cases Option.some.inj (hf.symm.trans hj)
    simp [pg_fv, pg_sr]
  · simp only [hjk, if_false]
    unfold pg_fv
    split <;> simp [pg_sr, hjk]
/-! arrays -/
theorem pg_iald {n : Nat} {i : Int32} (hΛ : Λ a = some (.inr (.int, n, none))) (hin : vp_in i n) (hdg : decode Y.2.1 pc = .ok (.iaload, 1)) (kk : pg_At S Λ Y d (pc + 1) ls (.int (M.1 a i.toNatClampNeg) :: st) M P) : pg_At S Λ Y d pc ls (.int i :: .ref a :: st) M P :=
  fun p e s m args below meth c H locs R lj C9 hR hM hL hl => va_iald (a := pg_ad S a) C9.1 C9.2.1 C9.2.2.2.2.2.1.1 (pg_one hM hΛ) 0 0 rfl rfl hin hdg (kk p e s m args below meth c H locs R lj C9 hR hM hL hl)
theorem pg_lald {n : Nat} {i : Int32} (hΛ : Λ a = some (.inr (.long, n, some none))) (hin : vp_in i n) (hdg : decode Y.2.1 pc = .ok (.laload, 1)) (kk : pg_At S Λ Y d (pc + 1) ls (.long (M.2.1 a i.toNatClampNeg) :: st) M P) : pg_At S Λ Y d pc ls (.int i :: .ref a :: st) M P :=
  fun p e s m args below meth c H locs R lj C9 hR hM hL hl => va_lald (a := pg_ad S a) C9.1 C9.2.1 C9.2.2.2.2.2.1.1 (pg_one hM hΛ) 0 1 rfl rfl hin hdg (kk p e s m args below meth c H locs R lj C9 hR hM hL hl)
theorem pg_zald {n : Nat} {i : Int32} (hΛ : Λ a = some (.inr (.boolean, n, none))) (hin : vp_in i n) (hdg : decode Y.2.1 pc = .ok (.baload, 1)) (kk : pg_At S Λ Y d (pc + 1) ls (.int (M.1 a i.toNatClampNeg) :: st) M P) : pg_At S Λ Y d pc ls (.int i :: .ref a :: st) M P :=
  fun p e s m args below meth c H locs R lj C9 hR hM hL hl => va_zald (a := pg_ad S a) C9.1 C9.2.1 C9.2.2.2.2.2.1.1 (pg_one hM hΛ) 0 2 rfl rfl hin hdg (kk p e s m args below meth c H locs R lj C9 hR hM hL hl)
theorem pg_cald {n : Nat} {i : Int32} (hΛ : Λ a = some (.inr (.char, n, none))) (hin : vp_in i n) (hdg : decode Y.2.1 pc = .ok (.caload, 1)) (kk : pg_At S Λ Y d (pc + 1) ls (.int (M.1 a i.toNatClampNeg) :: st) M P) : pg_At S Λ Y d pc ls (.int i :: .ref a :: st) M P :=
  fun p e s m args below meth c H locs R lj C9 hR hM hL hl => va_cald (a := pg_ad S a) C9.1 C9.2.1 C9.2.2.2.2.2.1.1 (pg_one hM hΛ) 0 3 rfl rfl hin hdg (kk p e s m args below meth c H locs R lj C9 hR hM hL hl)
theorem pg_aldS {n : Nat} {i : Int32} {f : Nat → Nat} (hΛ : Λ a = some (.inr (.object "PegLaws$State", n, some (some f)))) (hin : vp_in i n) (hdg : decode Y.2.1 pc = .ok (.aaload, 1)) (kk : pg_At S Λ Y d (pc + 1) ls (.ref (f i.toNatClampNeg) :: st) M P) : pg_At S Λ Y d pc ls (.int i :: .ref a :: st) M P :=
  fun p e s m args below meth c H locs R lj C9 hR hM hL hl => va_aldq (a := pg_ad S a) C9.1 C9.2.1 C9.2.2.2.2.2.1.1 (pg_one hM hΛ) 0 4 rfl rfl hin hdg (kk p e s m args below meth c H locs R lj C9 hR hM hL hl)
theorem pg_aldF {n : Nat} {i : Int32} {f : Nat → Nat} (hΛ : Λ a = some (.inr (.object "PegLaws$Felt", n, some (some f)))) (hin : vp_in i n) (hdg : decode Y.2.1 pc = .ok (.aaload, 1)) (kk : pg_At S Λ Y d (pc + 1) ls (.ref (f i.toNatClampNeg) :: st) M P) : pg_At S Λ Y d pc ls (.int i :: .ref a :: st) M P :=
  fun p e s m args below meth c H locs R lj C9 hR hM hL hl => va_aldq (a := pg_ad S a) C9.1 C9.2.1 C9.2.2.2.2.2.1.1 (pg_one hM hΛ) 0 5 rfl rfl hin hdg (kk p e s m args below meth c H locs R lj C9 hR hM hL hl)
theorem pg_iast {n : Nat} {i x : Int32} (hΛ : Λ a = some (.inr (.int, n, none))) (hin : vp_in i n) (hdg : decode Y.2.1 pc = .ok (.iastore, 1)) (kk : pg_At S Λ Y d (pc + 1) ls st (pg_si M a i.toNatClampNeg x) P) : pg_At S Λ Y d pc ls (.int x :: .int i :: .ref a :: st) M P := by
  intro p e s m args below meth c H locs R lj C9 hR hM hL hl
  obtain ⟨q, hq⟩ := pg_ws_at (S := S) (M := M) (hM.1 a _ hΛ).1 hΛ
  refine va_iast (a := pg_ad S a) C9.1 C9.2.1 C9.2.2.2.2.2.1.1 (pg_ws_P hM) pg_ws_D (pg_VS hL) q 0 hq rfl hin hdg (fun H1 locs1 hP1 hD1 hS1 => ?_)
  exact kk p e s m args below meth c H1 locs1 R lj C9 hR (pg_R.set hM hΛ hq (by simp [pg_ce, pg_si]) (pg_si_off S M a _ _) hP1 hS1) hS1.2.2 hl
theorem pg_zast {n : Nat} {i x : Int32} (hΛ : Λ a = some (.inr (.boolean, n, none))) (hin : vp_in i n) (hdg : decode Y.2.1 pc = .ok (.bastore, 1)) (kk : pg_At S Λ Y d (pc + 1) ls st (pg_si M a i.toNatClampNeg (vp_nar .boolean x)) P) : pg_At S Λ Y d pc ls (.int x :: .int i :: .ref a :: st) M P := by
  intro p e s m args below meth c H locs R lj C9 hR hM hL hl
  obtain ⟨q, hq⟩ := pg_ws_at (S := S) (M := M) (hM.1 a _ hΛ).1 hΛ
  refine va_zast (a := pg_ad S a) C9.1 C9.2.1 C9.2.2.2.2.2.1.1 (pg_ws_P hM) pg_ws_D (pg_VS hL) q 2 hq rfl hin hdg (fun H1 locs1 hP1 hD1 hS1 => ?_)
  exact kk p e s m args below meth c H1 locs1 R lj C9 hR (pg_R.set hM hΛ hq (by simp [pg_ce, pg_si]) (pg_si_off S M a _ _) hP1 hS1) hS1.2.2 hl
theorem pg_cast {n : Nat} {i x : Int32} (hΛ : Λ a = some (.inr (.char, n, none))) (hin : vp_in i n) (hdg : decode Y.2.1 pc = .ok (.castore, 1)) (kk : pg_At S Λ Y d (pc + 1) ls st (pg_si M a i.toNatClampNeg (vp_nar .char x)) P) : pg_At S Λ Y d pc ls (.int x :: .int i :: .ref a :: st) M P := by
  intro p e s m args below meth c H locs R lj C9 hR hM hL hl
  obtain ⟨q, hq⟩ := pg_ws_at (S := S) (M := M) (hM.1 a _ hΛ).1 hΛ
  refine va_cast (a := pg_ad S a) C9.1 C9.2.1 C9.2.2.2.2.2.1.1 (pg_ws_P hM) pg_ws_D (pg_VS hL) q 3 hq rfl hin hdg (fun H1 locs1 hP1 hD1 hS1 => ?_)
  exact kk p e s m args below meth c H1 locs1 R lj C9 hR (pg_R.set hM hΛ hq (by simp [pg_ce, pg_si]) (pg_si_off S M a _ _) hP1 hS1) hS1.2.2 hl
theorem pg_last {n : Nat} {i : Int32} {x : Int64} (hΛ : Λ a = some (.inr (.long, n, some none))) (hin : vp_in i n) (hdg : decode Y.2.1 pc = .ok (.lastore, 1)) (kk : pg_At S Λ Y d (pc + 1) ls st (pg_sj M a i.toNatClampNeg x) P) : pg_At S Λ Y d pc ls (.long x :: .int i :: .ref a :: st) M P := by
  intro p e s m args below meth c H locs R lj C9 hR hM hL hl
  obtain ⟨q, hq⟩ := pg_ws_at (S := S) (M := M) (hM.1 a _ hΛ).1 hΛ
  refine va_last (a := pg_ad S a) C9.1 C9.2.1 C9.2.2.2.2.2.1.1 (pg_ws_P hM) pg_ws_D (pg_VS hL) q 1 hq rfl hin hdg (fun H1 locs1 hP1 hD1 hS1 => ?_)
  exact kk p e s m args below meth c H1 locs1 R lj C9 hR (pg_R.set hM hΛ hq (by simp [pg_ce, pg_sj]) (pg_sj_off S M a _ _) hP1 hS1) hS1.2.2 hl
theorem pg_alen {ty : FieldType} {n : Nat} {x : Option (Option (Nat → Nat))} (hΛ : Λ a = some (.inr (ty, n, x))) (t0 : Nat) (ht : pg_tys[t0]? = some ty) (hdg : decode Y.2.1 pc = .ok (.arraylength, 1)) (kk : pg_At S Λ Y d (pc + 1) ls (.int (Int32.ofNat n) :: st) M P) : pg_At S Λ Y d pc ls (.ref a :: st) M P := by
  intro p e s m args below meth c H locs R lj C9 hR hM hL hl
  have ht' : (pg_tys.map fun t => (S.2.2.2.1 t, t))[t0]? = some (S.2.2.2.1 ty, ty) := by simp [List.getElem?_map, ht]
  have k9 := kk p e s m args below meth c H locs R lj C9 hR hM hL hl
  rcases x with _ | _ | f
  · exact va_alen (a := pg_ad S a) C9.1 C9.2.1 C9.2.2.2.2.2.1.1 (pg_one hM hΛ) 0 t0 rfl ht' rfl hdg k9
  · exact va_alen (a := pg_ad S a) C9.1 C9.2.1 C9.2.2.2.2.2.1.1 (pg_one hM hΛ) 0 t0 rfl ht' rfl hdg k9
  · exact va_alen (a := pg_ad S a) C9.1 C9.2.1 C9.2.2.2.2.2.1.1 (pg_one hM hΛ) 0 t0 rfl ht' rfl hdg k9
/-! ends -/
theorem pg_iret {v : Int32} (hr : Y.2.2.2 = some .int) (hdg : decode Y.2.1 pc = .ok (.ireturn, 1)) (h : P (some (.int v)) M) : pg_At S Λ Y d pc ls [.int v] M P :=
  fun p e s m args below meth c H locs R lj C9 hR hM hL hl => W.iret C9.1 C9.2.1 (C9.2.2.2.2.2.2.1.trans hr) (fun t ht _ => ⟨some (.int v), M, rfl, h, by rw [ht]; exact hM⟩) hL hdg C9.2.2.2.2.2.2.2
theorem pg_zret {v : Int32} {ty : FieldType} (hr : Y.2.2.2 = some ty) (hn : narrow ty (.int v) = .int v) (hdg : decode Y.2.1 pc = .ok (.ireturn, 1)) (h : P (some (.int v)) M) : pg_At S Λ Y d pc ls [.int v] M P :=
  fun p e s m args below meth c H locs R lj C9 hR hM hL hl => W.zret C9.1 C9.2.1 (C9.2.2.2.2.2.2.1.trans hr) hn (fun t ht _ => ⟨some (.int v), M, rfl, h, by rw [ht]; exact hM⟩) hL hdg C9.2.2.2.2.2.2.2
theorem pg_lret {v : Int64} (hr : Y.2.2.2 = some .long) (hdg : decode Y.2.1 pc = .ok (.lreturn, 1)) (h : P (some (.long v)) M) : pg_At S Λ Y d pc ls [.long v] M P :=
  fun p e s m args below meth c H locs R lj C9 hR hM hL hl => W.lret C9.1 C9.2.1 (C9.2.2.2.2.2.2.1.trans hr) (fun t ht _ => ⟨some (.long v), M, rfl, h, by rw [ht]; exact hM⟩) hL hdg C9.2.2.2.2.2.2.2
theorem pg_vret (hr : Y.2.2.2 = none) (hdg : decode Y.2.1 pc = .ok (.return_, 1)) (h : P none M) : pg_At S Λ Y d pc ls [] M P :=
  fun p e s m args below meth c H locs R lj C9 hR hM hL hl => W.vret C9.1 C9.2.1 (C9.2.2.2.2.2.2.1.trans hr) (fun t ht _ => ⟨none, M, rfl, h, by rw [ht]; exact hM⟩) hL hdg C9.2.2.2.2.2.2.2
/-! calls -/
theorem pg_blind {As : List Value} {M0 : pg_M} : FrameBlind (pg_P S Λ As M0) := fun a U g mk h => ⟨h.1, h.2.1, pg_K.same (s := U) (U := U.calling g mk a) rfl h.2.2⟩
theorem pg_goon {As : Array Value} {P' : Option Value → pg_M → Prop} {st0 : List Value} {p : Program} {e : Env} {s : State} {m : MethodId} {args : Array Value} {below : List Frame} {meth : Method} {c : Code} {H : Heap} {locs : List Loc} {R : Room} {lj : Array Slot} (C9 : pg_C S Y p s m args meth c) (hR : d + 8 ≤ R.frames ∧ 64 * d + 512 ≤ R.locals) (hL : ∀ q ∈ locs, S.2.1 ≤ q.base) (hl : lv_has lj Y.2.2.1 (pg_ml S ls))
    (hr : va_Run p S.1 e R s m args below meth c H locs 0 0 0 0 (F0 m pc lj st0) (st.map (pg_up S)) (pg_Q S Λ P' As) (fun q => S.2.1 ≤ q)) (kk : ∀ r M', P' r M' → pg_At S Λ Y d (pc + 3) ls (r.toList ++ st) M' P) :
    W p S.1 e R s m args below meth c H locs 0 0 (MQ below (pg_Q S Λ P) args s 0 0 (fun q => S.2.1 ≤ q)) (F0 m pc lj st0) := by
  intro T hT X
  obtain ⟨v, st₀, t, T', L, h0, X', hL', e1, e2, ⟨r, M', hv, hp, hm⟩, go⟩ := hr T hT X
  have hv' : v = r.map (pg_up S) := Outcome.returned.inj hv
  subst hv'
  have h9 := kk r M' hp p e s m args below meth c T'.heap (locs ++ L) R lj C9 hR (by rw [e1]; exact hm) (fun q hq => (List.mem_append.mp hq).elim (hL q) (hL' q)) hl
  rw [List.map_append, show r.toList.map (pg_up S) = (r.map (pg_up S)).toList by cases r <;> rfl] at h9
  obtain ⟨t2, a1, b1⟩ := h9 T' rfl X'
  exact ⟨t2, go t2 a1, b1⟩
/-- what the tables say of a method that is called on an object of its class -/
def pg_okV (Y : pg_Y) : Prop := Cond.instanceMethod Y.1 ∈ pg_gd ∧ Cond.selects Y.1.cls Y.1 Y.1 ∈ pg_gd ∧ Cond.initialized Y.1.cls ∈ pg_gd ∧ Cond.code Y.1 Y.2.1 Y.2.2.1 Y.2.2.2 ∈ pg_gd ∧ Y.1.cls ≠ "java/lang/invoke/MethodHandle" ∧ Y.1.cls ≠ "java/lang/invoke/VarHandle" ∧ Y.2.2.1 ≤ 40
def pg_okS (Y : pg_Y) : Prop := Cond.static Y.1 ∈ pg_gd ∧ Cond.initialized Y.1.cls ∈ pg_gd ∧ Cond.code Y.1 Y.2.1 Y.2.2.1 Y.2.2.2 ∈ pg_gd ∧ Y.1.cls ≠ "java/lang/invoke/MethodHandle" ∧ Y.1.cls ≠ "java/lang/invoke/VarHandle" ∧ Y.2.2.1 ≤ 40
theorem pg_callV {Y' : pg_Y} {d' index : Nat} {As : List Value} {b ci N : Nat} {T : u_T} {fs : List pg_F} {P' : Option Value → pg_M → Prop} (ok : pg_okV Y') (hlink : Cond.methodLink Y.1.cls index Y'.1 ∈ pg_gd) (hn : (parseMethodDescriptor Y'.1.desc).map (fun d => d.parameters.length) = some As.length) (hΛ : Λ b = some (.inl (ci, fs))) (hc : pg_cls[ci]? = some (Y'.1.cls, T, N)) (hdd : d' + 1 ≤ d) (hst : (st.map fun v => v.category).sum ≤ 8)
    (hE : pg_Ev S Λ Y' d' (.ref b :: As) M P') (hdg : decode Y.2.1 pc = .ok (.invokevirtual index, 3)) (kk : ∀ r M', P' r M' → pg_At S Λ Y d (pc + 3) ls (r.toList ++ st) M' P) : pg_At S Λ Y d pc ls (As.reverse ++ .ref b :: st) M P := by
  intro p e s m args below meth c H locs R lj C9 hR hM hL hl
  obtain ⟨o1, o2, o3, o4, o5, o6, o7⟩ := ok
  have hM9 := hE ({ frames := d' + 8, cells := 0, slots := 0, locals := 64 * d' + 512 } : Room) (Nat.le_refl _) (Nat.le_refl _) rfl rfl
  refine pg_goon (As := (Value.ref (pg_ad S b) :: As.map (pg_up S)).toArray) C9 hR hL hl ?_ kk
  refine va_runV (As := As.map (pg_up S)) (b := pg_ad S b) (C := Y'.1.cls) (n := As.length) ⟨C9.1, C9.2.1, C9.2.2.1, C9.2.2.2.1, C9.2.2.2.2.1⟩ hM9 (cwV As.length C9.2.2.2.2.1 (fun w hw => ?_) rfl rfl rfl ⟨rfl, o5, o6, hn⟩ ⟨by show d' + 8 + 1 ≤ R.frames; omega, by show 8 + (Y'.2.2.1 + 11) + (64 * d' + 512) ≤ R.locals; omega⟩) ⟨pg_blind, va_recv C9.2.2.2.2.2.1.1 (pg_one hM hΛ) hc (q0 := 0) rfl, fun U hU hW => ⟨rfl, by rw [hU]; exact hM, pg_K.warm hW C9.2.2.2.2.2.1⟩⟩ rfl (by simp) hl.1 (by simp [pg_up]) (lv_room (by rw [List.map_map]; simpa [Function.comp_def, pg_up_cat] using hst)) hdg ⟨Nat.zero_le _, Nat.zero_le _⟩
  have hg := pg_good o4
  unfold wsV at hw
  rcases List.mem_append.mp hw with h | h
  · have : w ∈ pg_gd := by
      simp only [List.mem_cons, List.not_mem_nil, or_false] at h
      rcases h with rfl | rfl | rfl | rfl
      · exact hlink
      · exact o1
      · exact o2
      · exact o3
    exact hg w (List.mem_cons_of_mem _ this)
  · exact hg w h
theorem pg_callS {Y' : pg_Y} {d' index : Nat} {As : List Value} {P' : Option Value → pg_M → Prop} (ok : pg_okS Y') (hlink : Cond.methodLink Y.1.cls index Y'.1 ∈ pg_gd) (hn : (parseMethodDescriptor Y'.1.desc).map (fun d => d.parameters.length) = some As.length) (hdd : d' + 1 ≤ d) (hst : (st.map fun v => v.category).sum ≤ 8)
    (hE : pg_Ev S Λ Y' d' As M P') (hdg : decode Y.2.1 pc = .ok (.invokestatic index, 3)) (kk : ∀ r M', P' r M' → pg_At S Λ Y d (pc + 3) ls (r.toList ++ st) M' P) : pg_At S Λ Y d pc ls (As.reverse ++ st) M P := by
  intro p e s m args below meth c H locs R lj C9 hR hM hL hl
  obtain ⟨o1, o3, o4, o5, o6, o7⟩ := ok
  have hM9 := hE ({ frames := d' + 8, cells := 0, slots := 0, locals := 64 * d' + 512 } : Room) (Nat.le_refl _) (Nat.le_refl _) rfl rfl
  refine pg_goon (As := (As.map (pg_up S)).toArray) C9 hR hL hl ?_ kk
  refine va_runS (As := As.map (pg_up S)) (n := As.length) ⟨C9.1, C9.2.1, C9.2.2.1, C9.2.2.2.1, C9.2.2.2.2.1⟩ hM9 (va_cwS As.length C9.2.2.2.2.1 (fun w hw => ?_) rfl rfl rfl ⟨o5, o6, hn⟩ ⟨by show d' + 8 + 1 ≤ R.frames; omega, by show 8 + (Y'.2.2.1 + 11) + (64 * d' + 512) ≤ R.locals; omega⟩) ⟨pg_blind, fun U hU hW => ⟨rfl, by rw [hU]; exact hM, pg_K.warm hW C9.2.2.2.2.2.1⟩⟩ rfl (by simp) hl.1 (by simp) (lv_room (by rw [List.map_map]; simpa [Function.comp_def, pg_up_cat] using hst)) hdg ⟨Nat.zero_le _, Nat.zero_le _⟩
  have hg := pg_good o4
  unfold va_wsS at hw
  rcases List.mem_append.mp hw with h | h
  · have : w ∈ pg_gd := by
      simp only [List.mem_cons, List.not_mem_nil, or_false] at h
      rcases h with rfl | rfl | rfl
      · exact hlink
      · exact o1
      · exact o3
    exact hg w (List.mem_cons_of_mem _ this)
  · exact hg w h
end PGM
