/-! the reference's constructor: the class's cells lie before it, whole -/
def pn_P2 (S : pg_S) (Λ : pg_L) (M : pg_M) (x : Nat) (o : va_E) : Array Value → State → Prop := fun v U => v = #[.ref (pg_ad S x)] ∧ va_at S.2.2.1 pg_cls (pg_ad S x, o) U.heap ∧ (∀ (b : Nat) (d : pg_D), b < x → Λ b = some d → va_at S.2.2.1 pg_cls (pg_ad S b, pg_ce S M b d) U.heap) ∧ U.heap.size = S.2.1 + (x + 1) ∧ (∀ q : Nat, q < S.2.1 → U.heap[q]? = S.2.2.2.2.2[q]?) ∧ pn_AO U ∧ pg_K S U
def pn_Ev2 (S : pg_S) (Λ : pg_L) (Y : pg_Y) (d : Nat) (M : pg_M) (x : Nat) (o : va_E) (mc ms nF : Nat) (PF : pg_M → Prop) : Prop :=
  ∀ rm : Room, d + 8 ≤ rm.frames → 64 * d + 512 ≤ rm.locals → rm.cells = mc → rm.slots = ms → Met S.1 Y.1 (Cond.code Y.1 Y.2.1 Y.2.2.1 none :: pg_gd) rm (pn_P2 S Λ M x o) (pn_Q S Λ 0 nF PF) mc ms (fun q => S.2.1 + 0 ≤ q)
theorem pn_Ev2.of {S : pg_S} {Λ : pg_L} {Y : pg_Y} {d x mc ms nF : Nat} {o : va_E} {PF : pg_M → Prop} {M : pg_M} (hy : plainName Y.1.cls = true) (hnm : Y.1.name = "<init>") (hr : Y.2.2.2 = none) (hx : x < 1000) (hn : 1 ≤ Y.2.2.1) (h : pn_At S Λ Y d 0 [(0, .ref x)] [] M (pn_up (fun _ => none) x o, 0, x + 1, 0, 0, mc, ms, nF, PF)) : pn_Ev2 S Λ Y d M x o mc ms nF PF := by
  intro rm h1 h2 h3 h4
  refine Met.ofW (cc := Y.2.1) (maxL := Y.2.2.1) (ret := none) hy rfl ?_
  intro p e s m args below meth c s₁ B hml hv
  obtain ⟨rfl, hat, hcl, hsz, hlow, hao, hK⟩ := hv
  have hts := atoms_spec (ws := Cond.code Y.1 Y.2.1 Y.2.2.1 none :: pg_gd) B.pre
  have hl := lv_entry (([.ref x] : List Value).map (pg_up S)) (n := Y.2.2.1) (by rw [pg_sl]; exact hn)
  rw [pg_args] at hl
  have hin : meth.name = Y.1.name := (name_of_methodNamed B.named B.method).1
  rw [lg_entry_eq]
  refine h p e s m _ below meth c s.heap [] (headSpec (Cond.code Y.1 Y.2.1 Y.2.2.1 none :: pg_gd) rm).room _ ⟨B.exec, B.bytes, hml, findClass_of_methodNamed B.named, fun w hw => hts w (List.mem_cons_of_mem _ hw), hK, B.returns.trans hr.symm, B.notSynchronized⟩ ⟨h1, h2, Nat.le_of_eq h3.symm, Nat.le_of_eq h4.symm, hin.trans hnm, hao⟩ ⟨fun b o' hg => ?_, fun q _ => rfl, hsz, by show x + 1 ≤ 1000; omega, by show 0 < x + 1; omega, fun b hb => ?_, hlow, hsz⟩ (fun q hq => by cases hq) hl
  · unfold pn_g at hg
    split at hg
    · rename_i hb
      have hb9 : 0 ≤ b ∧ b < x + 1 := hb
      by_cases hbx : b = x
      · subst hbx
        simp only [pn_up, if_true] at hg
        cases Option.some.inj hg
        exact hat
      · simp only [pn_up, hbx, if_false] at hg
        cases hd : Λ b with
        | none => rw [hd] at hg; cases hg
        | some d2 =>
          rw [hd] at hg
          cases Option.some.inj hg
          exact hcl b d2 (by omega) hd
    · cases hg
  · show (if b = x then some o else none) = none
    rw [if_neg (by have : x + 1 ≤ b := hb; omega)]
section PNV
variable {S : pg_S} {Λ : pg_L} {Y : pg_Y} {d pc : Nat} {ls : List (Nat × Value)} {st : List Value} {M : pg_M} {E : pn_E} {a n c0 s0 mc ms nF : Nat} {PF : pg_M → Prop}
theorem pn_R.mem {M' : pg_M} {b : Nat} {dd : pg_D} {H0 H H1 : Heap} (h : pn_R S Λ M E a n c0 H0 H) (hb : a ≤ b ∧ b < n) (hEb : E b = none) (hΛ : Λ b = some dd) (hoff : ∀ x d', x ≠ b → pg_ce S M' x d' = pg_ce S M x d') (hat : va_at S.2.2.1 pg_cls (pg_ad S b, pg_ce S M' b dd) H1) (hz : H1.size = H.size) (ho : ∀ q, q ≠ pg_ad S b → H1[q]? = H[q]?) : pn_R S Λ M' E a n c0 H0 H1 := by
  obtain ⟨g1, g2, g3, g4, g5, g6, g7, g8⟩ := h
  refine ⟨fun x o hg => ?_, fun q hq => ?_, by rw [hz]; exact g3, g4, g5, g6, g7, g8⟩
  · unfold pn_g at hg
    split at hg
    · rename_i hx
      by_cases hxb : x = b
      · subst hxb
        rw [hEb, hΛ] at hg
        cases Option.some.inj hg
        exact hat
      · refine (g1 x o ?_).kept (ho _ ?_)
        · unfold pn_g
          rw [if_pos hx]
          cases hE : E x with
          | some o2 => rw [hE] at hg; exact hg
          | none =>
            rw [hE] at hg
            simp only at hg ⊢
            cases hd : Λ x with
            | none => rw [hd] at hg; cases hg
            | some d2 =>
              rw [hd] at hg
              simp only [Option.map_some] at hg ⊢
              rw [← hg, hoff x d2 hxb]
        · show pg_ad S x ≠ pg_ad S b
          rw [pg_ad_lt (by omega), pg_ad_lt (by omega)]
          omega
    · cases hg
  · rw [ho q (by rw [pg_ad_lt (by omega)]; omega)]
    exact g2 q hq
theorem pn_last {b N : Nat} {i : Int32} {v : Int64} (hΛ : Λ b = some (.inr (.long, N, some none))) (hEb : E b = none) (hb : a ≤ b ∧ b < n) (hin : vp_in i N) (hdg : decode Y.2.1 pc = .ok (.lastore, 1)) (kk : pn_At S Λ Y d (pc + 1) ls st (pg_sj M b i.toNatClampNeg v) (E, a, n, c0, s0, mc, ms, nF, PF)) : pn_At S Λ Y d pc ls (.long v :: .int i :: .ref b :: st) M (E, a, n, c0, s0, mc, ms, nF, PF) := by
  intro p e s m args below meth c H locs R lj C9 hR hM hL hl
  have hcell : H[pg_ad S b]? = some (arrV (S.2.2.2.1 .long) N (fun j => .long (M.2.1 b j))) := hM.1 b (.inl (S.2.2.2.1 .long, N, .inr (.inl (M.2.1 b)))) (by
    show pn_g S Λ M E a n b = _
    unfold pn_g
    rw [if_pos hb, hEb, hΛ]
    rfl)
  refine W.last (a := pg_ad S b) (j := i) (x := v) C9.1 C9.2.1 hcell ((C9.2.2.2.2.2.1.1.2 1 (S.2.2.2.1 .long, .long) rfl).1 N (fun j => .long (M.2.1 b j))) (fun q => by cases q) (by show ¬ (i < 0 ∨ (arrV _ _ _).slots.size ≤ _); rw [arrV_size]; exact hin) rfl rfl hdg fun H1 e1 z1 oq => ?_
  have g4' : n ≤ 1000 := hM.2.2.2.1
  have hat : va_at S.2.2.1 pg_cls (pg_ad S b, pg_ce S (pg_sj M b i.toNatClampNeg v) b (.inr (.long, N, some none))) H1 := by
    show H1[pg_ad S b]? = some (arrV (S.2.2.2.1 .long) N (fun j => .long ((pg_sj M b i.toNatClampNeg v).2.1 b j)))
    rw [e1, arrV_store]
    congr 2
    funext q
    by_cases hq : q = i.toNatClampNeg
    · subst hq
      simp [updV, pg_sj, vp_updL]
    · simp [updV, pg_sj, vp_updL, hq]
  have hM1 : pn_R S Λ (pg_sj M b i.toNatClampNeg v) E a n c0 s.heap H1 := pn_R.mem hM hb hEb hΛ (pg_sj_off S M b i.toNatClampNeg v) hat z1 oq
  exact kk p e s m args below meth c H1 (locs ++ [⟨pg_ad S b, i.toNatClampNeg⟩]) R lj C9 hR hM1 (fun q hq => (List.mem_append.mp hq).elim (hL q) (fun h => by
    cases List.mem_singleton.mp h
    show S.2.1 + a ≤ pg_ad S b
    rw [pg_ad_lt (by omega)]
    omega)) hl
/-- the layout up to there -/
def pn_cut (Λ : pg_L) (n : Nat) : pg_L := fun b => if b < n then Λ b else none
theorem pn_pure0 {Y' : pg_Y} {d' index ci N x : Nat} {T : u_T} {fs : List pg_F} {As : List Value} {P' : Option Value → pg_M → Prop} (ok : pg_okV Y') (hlink : Cond.methodLink Y.1.cls index Y'.1 ∈ pg_gd) (hpar : (parseMethodDescriptor Y'.1.desc).map (fun d => d.parameters.length) = some As.length) (hx : x < n) (hΛx : Λ x = some (.inl (ci, fs))) (hc : pg_cls[ci]? = some (Y'.1.cls, T, N)) (hdd : d' + 1 ≤ d) (hcs : c0 ≤ mc ∧ s0 ≤ ms) (hst : (st.map fun v => v.category).sum ≤ 8)
    (hE : pg_Ev S (pn_cut Λ n) Y' d' (.ref x :: As) M P') (hnone : ∀ r M2, P' r M2 → r = none) (hdg : decode Y.2.1 pc = .ok (.invokevirtual index, 3))
    (hw : ∀ (b : Nat) (o : va_E), E b = some o → (Λ b).map (pg_ce S M b) = some o) (hlast : ∃ d2, Λ (n - 1) = some d2)
    (kk : ∀ M2, P' none M2 → pn_At S Λ Y d (pc + 3) ls st M2 (fun _ => none, 0, n, c0, s0, mc, ms, nF, PF)) : pn_At S Λ Y d pc ls (As.reverse ++ .ref x :: st) M (E, 0, n, c0, s0, mc, ms, nF, PF) := by
  intro p e s m args below meth c H locs R lj C9 hR hM hL hl
  obtain ⟨o1, o2, o3, o4, o5, o6, o7⟩ := ok
  obtain ⟨g1, g2, g3, g4, g5, g6, g7, g8⟩ := hM
  have g4' : n ≤ 1000 := g4
  have g5' : 0 < n := g5
  have g8' : s.heap.size + c0 = S.2.1 + n := g8
  have g3' : H.size = S.2.1 + n := g3
  have hR1 : d + 8 ≤ R.frames := hR.1
  have hR2 : 64 * d + 512 ≤ R.locals := hR.2.1
  have hcut : ∀ (b : Nat) (d2 : pg_D), pn_cut Λ n b = some d2 → b < n ∧ Λ b = some d2 := fun b d2 h => by
    unfold pn_cut at h
    split at h
    · rename_i hb; exact ⟨hb, h⟩
    · cases h
  have whole : ∀ (b : Nat) (d2 : pg_D), b < n → Λ b = some d2 → va_at S.2.2.1 pg_cls (pg_ad S b, pg_ce S M b d2) H := fun b d2 h2 h3 => by
    refine g1 b _ ?_
    show pn_g S Λ M E 0 n b = _
    unfold pn_g
    rw [if_pos ⟨Nat.zero_le _, h2⟩]
    cases hE2 : E b with
    | none => simp only [h3, Option.map_some]
    | some o =>
      have := hw b o hE2
      rw [h3] at this
      simp only [Option.map_some] at this
      simp only [this]
  have hlow : ∀ q : Nat, q < S.2.1 → H[q]? = S.2.2.2.2.2[q]? := fun q hq => (g2 q (by show q < S.2.1 + 0; omega)).trans (g7 q hq)
  have hR' : pg_R S (pn_cut Λ n) M H := ⟨fun b d2 hb => ⟨by have := (hcut b d2 hb).1; omega, whole b d2 (hcut b d2 hb).1 (hcut b d2 hb).2⟩, hlow, by omega⟩
  have hΛc : pn_cut Λ n x = some (.inl (ci, fs)) := by unfold pn_cut; rw [if_pos hx]; exact hΛx
  have hM9 := hE ({ frames := d' + 8, cells := 0, slots := 0, locals := 64 * d' + 512 } : Room) (Nat.le_refl _) (Nat.le_refl _) rfl rfl
  have hrun : va_Run p S.1 e R s m args below meth c H locs c0 s0 0 0 (F0 m pc lj ((As.reverse ++ Value.ref x :: st).map (pg_up S))) (st.map (pg_up S)) (pg_Q S (pn_cut Λ n) P' (Value.ref (pg_ad S x) :: As.map (pg_up S)).toArray) (fun q => S.2.1 ≤ q) := by
    refine va_runV (As := As.map (pg_up S)) (b := pg_ad S x) (C := Y'.1.cls) (n := As.length) ⟨C9.1, C9.2.1, C9.2.2.1, C9.2.2.2.1, C9.2.2.2.2.1⟩ hM9 (cwV As.length C9.2.2.2.2.1 (fun w hw => ?_) rfl rfl rfl ⟨rfl, o5, o6, hpar⟩ ⟨by show d' + 8 + 1 ≤ R.frames; omega, pn_n1 hdd o7 hR2⟩) ⟨pg_blind, va_recv C9.2.2.2.2.2.1.1 (pg_one hR' hΛc) hc (q0 := 0) rfl, fun U hU hW => ⟨rfl, by rw [hU]; exact hR', pg_K.warm hW C9.2.2.2.2.2.1⟩⟩ rfl (by simp) hl.1 (by simp [pg_up]) (lv_room (by rw [List.map_map]; simpa [Function.comp_def, pg_up_cat] using hst)) hdg ⟨by have h7 : mc ≤ R.cells := hR.2.2.1; show c0 + 0 ≤ R.cells; omega, by have h7 : ms ≤ R.slots := hR.2.2.2.1; show s0 + 0 ≤ R.slots; omega⟩
    have hg := pg_good o4
    unfold wsV at hw
    rcases List.mem_append.mp hw with h | h
    · have : w ∈ pg_gd := by
        simp only [List.mem_cons, List.not_mem_nil, or_false] at h
        rcases h with rfl | rfl | rfl | rfl
        · exact hlink
        · exact o1
        · exact o2
        · exact o3
      exact hg w (List.mem_cons_of_mem _ this)
    · exact hg w h
  intro T hT X
  obtain ⟨v, st₀, t, T', L, h0, X', hL', e1, e2, ⟨r, M2, hv, hp, hm⟩, go⟩ := hrun T hT X
  have hr0 := hnone r M2 hp
  subst hr0
  have hv' : v = none := Outcome.returned.inj hv
  subst hv'
  have hcell : ∀ (b : Nat) (d2 : pg_D), b < n → Λ b = some d2 → va_at S.2.2.1 pg_cls (pg_ad S b, pg_ce S M2 b d2) T'.heap := by
    intro b d2 h2 h3
    rw [e1]
    exact (hm.1 b d2 (by unfold pn_cut; rw [if_pos h2]; exact h3)).2
  have hM' : pn_R S Λ M2 (fun _ => none) 0 n c0 s.heap T'.heap := by
    refine ⟨fun b o hg => ?_, fun q hq => ?_, ?_, g4, g5, fun _ _ => rfl, g7, g8⟩
    · unfold pn_g at hg
      split at hg
      · rename_i hb
        simp only at hg
        cases hd : Λ b with
        | none => rw [hd] at hg; cases hg
        | some d2 =>
          rw [hd] at hg
          cases Option.some.inj hg
          exact hcell b d2 hb.2 hd
      · cases hg
    · have hq' : q < S.2.1 + 0 := hq
      rw [e1, hm.2.1 q (by omega)]
      exact (g7 q (by omega)).symm
    · obtain ⟨d2, hd2⟩ := hlast
      have h1 := (hcell (n - 1) d2 (by omega) hd2).lt
      have h2 : T'.heap.size ≤ s.heap.size + (c0 + 0) := X'.same.2.2.1
      have h3 : pg_ad S (n - 1) < T'.heap.size := h1
      rw [pg_ad_lt (by omega)] at h3
      omega
  have h9 := kk M2 hp p e s m args below meth c T'.heap (locs ++ L) R lj C9 hR hM' (fun q hq => (List.mem_append.mp hq).elim (hL q) (fun h => by have := hL' q h; show S.2.1 + 0 ≤ q.base; omega)) hl
  obtain ⟨t2, a1, b1⟩ := h9 T' rfl X'
  exact ⟨t2, go t2 a1, b1⟩
end PNV
