/-! what both hold stays within its bounds -/
def sp_pos (s9 : sp_N) : Prop := ∀ c9 p9, (s9 2 c9).testBit p9 = true → 0 < s9 3 p9
theorem sp_pos.keep {s9 t9 : sp_N} (hp : sp_pos s9) (h2 : ∀ c9, t9 2 c9 = s9 2 c9) (h3 : ∀ p9, t9 3 p9 = s9 3 p9) : sp_pos t9 := fun c9 p9 hb => by
  rw [h2] at hb; rw [h3]; exact hp c9 p9 hb
theorem sp_pos.up {s9 : sp_N} {i9 j9 v9 : Nat} (hp : sp_pos s9) (h2 : i9 ≠ 2) (h3 : i9 ≠ 3) : sp_pos (sp_up s9 i9 j9 v9) := hp.keep (fun c9 => sp_up_ne (by omega)) (fun p9 => sp_up_ne (by omega))
theorem sp_pos.held {s9 : sp_N} {c9 v9 : Nat} (hp : sp_pos s9) (hv : ∀ p9, v9.testBit p9 = true → 0 < s9 3 p9) : sp_pos (sp_up s9 2 c9 v9) := fun e9 p9 hb => by
  rw [sp_up_ne (show ¬ (3 = 2 ∧ p9 = c9) by omega)]
  by_cases z9 : e9 = c9
  · rw [z9, sp_up_at] at hb; exact hv p9 hb
  · rw [sp_up_ne (by omega)] at hb; exact hp e9 p9 hb
theorem sp_sound_bit {s9 : sp_N} {p9 : Nat} (hb : (sp_sound s9).testBit p9 = true) : 0 < s9 3 p9 := by
  unfold sp_sound at hb
  rw [sp_mk_bit, Bool.and_eq_true, decide_eq_true_eq, decide_eq_true_eq] at hb
  exact hb.2
theorem sp_free_bit9 {s9 : sp_N} {p9 : Nat} (hb : (sp_free s9).testBit p9 = true) : 0 < s9 3 p9 := by
  unfold sp_free at hb
  rw [sp_mk_bit, Bool.and_eq_true, Bool.and_eq_true, decide_eq_true_eq, decide_eq_true_eq] at hb
  exact hb.2.1
section SPK
variable {L s : sp_N} {E : sp_E} {h c : Nat}
/-- weakened pegs are the cloth's own -/
theorem sp_pos.weak {v9 : Nat} (ho : sp_okS L s h) (hp : sp_pos s) (hv : ∀ p9, v9.testBit p9 = true → 0 < (sp_weak s (s 2 c)) 3 p9) : sp_pos (sp_up (sp_weak s (s 2 c)) 2 c v9) := fun e9 p9 hb => by
  rw [sp_up_ne (show ¬ (3 = 2 ∧ p9 = c) by omega)]
  by_cases z9 : e9 = c
  · rw [z9, sp_up_at] at hb; exact hv p9 hb
  · rw [sp_up_ne (by omega)] at hb
    have hb2 : (s 2 e9).testBit p9 = true := by
      have : (sp_weak s (s 2 c)) 2 e9 = s 2 e9 := by simp [sp_weak]
      rw [this] at hb; exact hb
    have hn : (s 2 c).testBit p9 = false := ho.2.2.2.2.2.2 e9 c p9 z9 hb2
    have : (sp_weak s (s 2 c)) 3 p9 = s 3 p9 := by simp [sp_weak, hn]
    rw [this]; exact hp e9 p9 hb2
theorem sp_pos.hit {wind : Nat} (ho : sp_okS L s h) (hp : sp_pos s) : sp_pos (sp_hit L E s c wind).1 := by
  unfold sp_hit
  split
  · exact hp
  · split
    · unfold sp_drop
      exact ((sp_pos.weak ho hp (fun p9 hb => by simp at hb)).up (by decide) (by decide)).up (by decide) (by decide)
    · refine sp_pos.weak ho hp (fun p9 hb => ?_)
      rw [Nat.testBit_and, Bool.and_eq_true] at hb
      exact sp_sound_bit hb.2
theorem sp_pos.hits {wind : Nat} (ho : sp_okS L s h) (hp : sp_pos s) : ∀ n, n ≤ L 4 0 → sp_pos (sp_hits L E s wind n).1 := by
  intro n
  induction n with
  | zero => intro _; exact hp
  | succ n ih =>
    intro hn
    simp only [sp_hits]
    split
    · exact ih (by omega)
    · exact sp_pos.hit (ho.hits n (by omega)) (ih (by omega))
theorem sp_pos.dries {wind : Nat} (hp : sp_pos s) : ∀ n, sp_pos (sp_dries L E s wind n) := by
  intro n
  induction n with
  | zero => exact hp
  | succ n ih =>
    simp only [sp_dries]
    split
    · exact ih
    · exact ih.up (by decide) (by decide)
theorem sp_okT.more {h' : Nat} (ho : sp_okT L s h) (hh : h ≤ h') : sp_okT L s h' := ⟨ho.1.more hh, ho.2⟩
theorem sp_okT.pass (ho : sp_okT L s h) : sp_okT L (sp_hour L E s 0).1 (h + 1) := ⟨ho.1.pass, sp_pos.up (s9 := sp_dries L E (sp_hits L E s (sp_wind L (s 4 1) + 0) (L 4 0)).1 (sp_wind L (s 4 1) + 0) (L 4 0)) (i9 := 4) (j9 := 1) (v9 := s 4 1 + 1) (sp_pos.dries (sp_pos.hits ho.1 ho.2 (L 4 0) (Nat.le_refl _)) (L 4 0)) (by decide) (by decide)⟩
theorem sp_okT.take {t : sp_N} {x : Int32} (hk : sp_okL L E) (ho : sp_okT L s h) (ht : sp_take L s x = some t) : sp_okT L t h := by
  refine ⟨ho.1.take hk ht, ?_⟩
  unfold sp_take at ht
  obtain ⟨c9, _, ht⟩ := Option.bind_eq_some_iff.mp ht
  split at ht
  · cases ht
  · cases ht
    exact sp_pos.held ho.2 (fun p9 hb => by simp at hb)
theorem sp_okT.hang {t : sp_N} {x b : Int32} (hk : sp_okL L E) (ho : sp_okT L s h) (ht : sp_hang L s x b = some t) : sp_okT L t h := by
  refine ⟨ho.1.hang hk ht, ?_⟩
  unfold sp_hang at ht
  obtain ⟨c9, _, ht⟩ := Option.bind_eq_some_iff.mp ht
  obtain ⟨n9, _, ht⟩ := Option.bind_eq_some_iff.mp ht
  split at ht
  · rename_i hm
    cases ht
    refine sp_pos.held ho.2 (fun p9 hb => ?_)
    unfold sp_may at hm
    rw [Bool.and_eq_true, Bool.and_eq_true, decide_eq_true_eq, decide_eq_true_eq] at hm
    have h0 := congrArg (fun z9 : Nat => z9.testBit p9) hm.2.1
    simp only [Nat.testBit_xor, Nat.testBit_and, hb, Nat.zero_testBit, Bool.true_and] at h0
    have : (sp_free s).testBit p9 = true := by
      cases hq : (sp_free s).testBit p9 with
      | true => rfl
      | false => rw [hq] at h0; exact absurd h0 (by decide)
    exact sp_free_bit9 this
  · cases ht
theorem sp_okT.wash {t : sp_N} {x : Int32} {k : Nat} (hk : sp_okL L E) (ho : sp_okT L s h) (ht : sp_wash L s x = some (k, t)) : sp_okT L t h := by
  refine ⟨ho.1.wash hk ht, ?_⟩
  unfold sp_wash at ht
  obtain ⟨c9, _, ht⟩ := Option.bind_eq_some_iff.mp ht
  split at ht
  · cases ht
    exact (sp_pos.up ho.2 (by decide) (by decide)).up (by decide) (by decide)
  · cases ht
theorem sp_okT.buy {t : sp_N} {g : Int32} (ho : sp_okT L s h) (ht : sp_buy s g = some t) : sp_okT L t h := by
  refine ⟨ho.1.buy ht, ?_⟩
  unfold sp_buy at ht
  obtain ⟨n9, _, ht⟩ := Option.bind_eq_some_iff.mp ht
  split at ht
  · rename_i hn
    cases ht
    intro c9 p9 hb
    rw [sp_up_ne (by omega), sp_up_ne (by omega)] at hb
    rw [sp_up_ne (by omega)]
    by_cases z9 : p9 = s 4 0
    · rw [z9, sp_up_at]; exact hn.1
    · rw [sp_up_ne (by omega)]; exact ho.2 c9 p9 hb
  · cases ht
end SPK
section SPG
variable {G : sp_G} {h : Nat}
theorem sp_okG.more {h' : Nat} (ho : sp_okG G h) (hh : h ≤ h') : sp_okG G h' := ⟨ho.l, ho.s.more hh, fun t ht => (ho.u t ht).more hh, fun m t f hm => ⟨(ho.m m t f hm).1.more hh, (ho.m m t f hm).2⟩, ho.2.2.2.2⟩
theorem sp_okG.did9 {t : sp_N} {us : List sp_N} (ho : sp_okG G h) (ht : sp_okT G.L t h) (hu : ∀ u, u ∈ us → sp_okT G.L u h) : sp_okG (G.did t us) h := ⟨ho.l, ht, hu, ho.m, ho.2.2.2.2⟩
theorem sp_okG.push (ho : sp_okG G h) : ∀ u, u ∈ sp_push G.us G.s → sp_okT G.L u h := by
  intro u hu
  unfold sp_push at hu
  rw [List.mem_append, List.mem_singleton] at hu
  rcases hu with hu | hu
  · split at hu
    · exact ho.u u (List.mem_of_mem_tail hu)
    · exact ho.u u hu
  · rw [hu]; exact ho.s
theorem sp_okG.qtake {x : Int32} (ho : sp_okG G h) : sp_okG (sp_qtake G x).2 h := by
  unfold sp_qtake
  cases ht : sp_take G.L G.s x with
  | none => exact ho
  | some t => exact ho.did9 (ho.s.take ho.l ht) ho.push
theorem sp_okG.qhang {x b : Int32} (ho : sp_okG G h) : sp_okG (sp_qhang G x b).2 h := by
  unfold sp_qhang
  cases ht : sp_hang G.L G.s x b with
  | none => exact ho
  | some t => exact ho.did9 (ho.s.hang ho.l ht) ho.push
theorem sp_okG.qwash {x : Int32} (ho : sp_okG G h) : sp_okG (sp_qwash G x).2 h := by
  unfold sp_qwash
  cases ht : sp_wash G.L G.s x with
  | none => exact ho
  | some q => exact ho.did9 (ho.s.wash ho.l (k := q.1) (t := q.2) ht) ho.push
theorem sp_okG.qbuy {x : Int32} (ho : sp_okG G h) : sp_okG (sp_qbuy G x).2 h := by
  unfold sp_qbuy
  cases ht : sp_buy G.s x with
  | none => exact ho
  | some t => exact ho.did9 (ho.s.buy ht) ho.push
theorem sp_okG.qhour (ho : sp_okG G h) : sp_okG (sp_qhour G).2 (h + 1) := by
  unfold sp_qhour
  exact (ho.more (Nat.le_succ h)).did9 ho.s.pass (fun u hu => (ho.push u hu).more (Nat.le_succ h))
theorem sp_okG.qundo (ho : sp_okG G h) : sp_okG (sp_qundo G).2 h := by
  unfold sp_qundo
  cases ht : G.us.getLast? with
  | none => exact ho
  | some t => exact ho.did9 (ho.u t (List.mem_of_getLast? ht)) (fun u hu => ho.u u (List.dropLast_subset _ hu))
theorem sp_okG.qmark {x : Int32} {b : Bool} (ho : sp_okG G h) : sp_okG (sp_qmark G x b).2 h := by
  unfold sp_qmark
  cases hx : sp_ix 4 x with
  | none => exact ho
  | some m =>
    cases b with
    | true =>
      show sp_okG (match G.mk m with
        | none => ((0 : Int32), G)
        | some q => (1, G.back q.1 [] q.2)).2 h
      cases hm : G.mk m with
      | none => exact ho
      | some q =>
        obtain ⟨a1, a2⟩ := ho.m m q.1 q.2 hm
        exact ⟨ho.l, a1, fun u hu => by simp [sp_G.back_us] at hu, ho.m, a2, ho.2.2.2.2.2⟩
    | false =>
      refine ⟨ho.l, ho.s, ho.u, fun j t f hj => ?_, ho.2.2.2.2⟩
      have hj : (if j = m then some (G.s, G.fl) else G.mk j) = some (t, f) := hj
      split at hj
      · injection hj with hj
        injection hj with h1 h2
        rw [← h1, ← h2]
        exact ⟨ho.s, ho.f⟩
      · exact ho.m j t f hj
theorem sp_ix_lt {n : Nat} {x : Int32} {c : Nat} (hn : n < 2 ^ 31) (hx : sp_ix n x = some c) : c < n := by
  unfold sp_ix at hx
  split at hx
  · rename_i hc
    injection hx with hx
    subst hx
    have h0 : ¬ x < 0 := by
      rw [fa_lt]
      have := hc.1
      rw [fa_le] at this
      omega
    obtain ⟨j, hj, rfl⟩ := nI_of h0
    rw [nI_clamp hj]
    exact (nI_ltI hj hn).mp hc.2
  · cases hx
theorem sp_okG.qfeel {x y z : Int32} (ho : sp_okG G h) : sp_okG (sp_qfeel G x y z).2 h := by
  have h6 := ho.l.1
  unfold sp_qfeel
  cases h1 : sp_ix (G.L 4 0) x with
  | none => exact ho
  | some c =>
    cases h2 : sp_ix 13 y with
    | none => exact ho
    | some k =>
      cases h3 : sp_ix 10 z with
      | none => exact ho
      | some w =>
        show sp_okG (if G.fl.length = 8 then ((0 : Int32), G) else (1, G.felt (G.fl ++ [(c, k, w)]))).2 h
        split
        · exact ho
        · rename_i h8
          have lc := sp_ix_lt (by omega) h1
          have lk := sp_ix_lt (by omega) h2
          have lw := sp_ix_lt (by omega) h3
          have hf := ho.f
          refine ⟨ho.l, ho.s, ho.u, ho.m, ⟨?_, fun j e hj => ?_⟩, ho.2.2.2.2.2⟩
          · show (G.fl ++ [(c, k, w)]).length ≤ 8
            have := hf.1
            simp; omega
          · have hj : (G.fl ++ [(c, k, w)])[j]? = some e := hj
            by_cases z9 : j < G.fl.length
            · rw [List.getElem?_append_left z9] at hj
              exact hf.2 j e hj
            · rw [List.getElem?_append_right (by omega)] at hj
              have : j - G.fl.length = 0 := by
                have := (List.getElem?_eq_some_iff.mp hj).1
                simp at this; omega
              rw [this] at hj
              injection hj with hj
              subst hj
              exact ⟨lc, by show k ≤ 12; omega, by show w ≤ 9; omega⟩
theorem sp_lay_chr {tp : List Nat} {v : Int64} (hc : ∀ c, c ∈ tp → c = 10 ∨ (32 ≤ c ∧ c ≤ 126)) : ∀ n, ∀ c, c ∈ sp_lay tp v n → c = 10 ∨ (32 ≤ c ∧ c ≤ 126) := by
  intro n
  induction n with
  | zero => exact hc
  | succ n ih =>
    intro c hm
    simp only [sp_lay, sp_sign] at hm
    split at hm
    · rename_i hq
      rw [List.mem_append, List.mem_singleton] at hm
      rcases hm with hm | hm
      · exact ih c hm
      · rw [hm]; exact hq.1
    · exact ih c hm
theorem sp_okG.tape9 {t : List Nat} (ho : sp_okG G h) (hl : t.length ≤ 1000) (hc : ∀ c, c ∈ t → c = 10 ∨ (32 ≤ c ∧ c ≤ 126)) : sp_okG (G.tape t) h := ⟨ho.l, ho.s, ho.u, ho.m, ho.f, ho.p, ⟨hl, hc⟩, ho.2.2.2.2.2.2.2⟩
theorem sp_okG.qfeed {a b c : Int64} (ho : sp_okG G h) : sp_okG (sp_qfeed G a b c).2 h := by
  unfold sp_qfeed
  refine ho.tape9 ?_ ?_
  · exact sp_lay_len (sp_lay_len (sp_lay_len ho.t.1 8) 8) 8
  · exact sp_lay_chr (sp_lay_chr (sp_lay_chr ho.t.2 8) 8) 8
theorem sp_okG.qline (ho : sp_okG G h) : sp_okG (sp_qline G).2 h := by
  unfold sp_qline
  cases hq : rd_line G.tp with
  | error e => exact ho.tape9 (by simp) (fun c hc => by simp at hc)
  | ok X =>
    have hx := rd_line_ok hq
    obtain ⟨x1, ⟨x2, x3⟩, ⟨x4, x5, x6, x7⟩, x8⟩ := hx
    show sp_okG (X.1, X.2.1, X.2.2.1, sp_start X.1, [], (fun _ => none), [], [], []) h
    refine sp_okG.more (h := 0) ⟨x1, ⟨sp_okS.start x1, fun c p hb => ?_⟩, fun t ht => by simp [sp_G.us] at ht, fun m t f hm => (by cases hm), ⟨Nat.zero_le _, fun j e hj => by simp [sp_G.fl] at hj⟩, ⟨Nat.zero_le _, fun j e hj => by simp [sp_G.pl] at hj⟩, ⟨Nat.zero_le _, fun c hc => by simp [sp_G.tp] at hc⟩, ⟨fun c hc => ?_, x3⟩, x4, x5, ?_, x7⟩ (Nat.zero_le _)
    · have hb : (sp_start X.1 2 c).testBit p = true := hb
      simp [sp_start] at hb
    · obtain ⟨a1, a2, a3⟩ := x2 c hc
      exact ⟨a1, a2, fun x hx => ⟨(a3 x hx).1, by have := (a3 x hx).2; omega⟩⟩
    · show X.1 4 5 ≤ 15
      rw [x6]; exact rd_cnt_le _
theorem sp_okG.qday (ho : sp_okG G h) : sp_okG (sp_qday G).2 h := by
  unfold sp_qday
  cases hq : rd_day G.tp G.nm (G.L 4 0) with
  | error e => exact ho.tape9 (by simp) (fun c hc => by simp at hc)
  | ok pl =>
    obtain ⟨a1, a2⟩ := rd_dones_ok (L9 := G.L) _ _ _ _ ⟨by simp, fun e9 he => by simp at he⟩ hq
    exact ⟨ho.l, ho.s, ho.u, ho.m, ho.f, ⟨a1, fun j e hj => a2 e (List.mem_of_getElem? hj)⟩, ⟨Nat.zero_le _, fun c hc => by simp [sp_G.plan_tp] at hc⟩, ho.2.2.2.2.2.2.2⟩
end SPG
