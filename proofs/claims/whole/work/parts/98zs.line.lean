/-! a call without cells inside a constructor, on the object that is made: as if the cells began with it -/
def pn_S (S : pg_S) (a : Nat) (H : Heap) : pg_S := (S.1, S.2.1 + a, S.2.2.1, S.2.2.2.1, S.2.2.2.2.1, H)
def pn_sh (a : Nat) (M : pg_M) : pg_M := (fun b => M.1 (a + b), fun b => M.2.1 (a + b), fun b => M.2.2 (a + b))
def pn_un (a n : Nat) (M M2 : pg_M) : pg_M := (fun b => if a ≤ b ∧ b < n then M2.1 (b - a) else M.1 b, fun b => if a ≤ b ∧ b < n then M2.2.1 (b - a) else M.2.1 b, M.2.2)
section PNU
variable {S : pg_S} {Λ Λs : pg_L} {Y : pg_Y} {d pc : Nat} {ls : List (Nat × Value)} {st : List Value} {M : pg_M} {E : pn_E} {a n c0 s0 mc ms nF : Nat} {PF : pg_M → Prop}
theorem pn_KS {s : State} {H : Heap} (h : pg_K S s) (hlow : ∀ q : Nat, q < S.2.1 → H[q]? = S.2.2.2.2.2[q]?) : pg_K (pn_S S a H) s := by
  obtain ⟨h1, h2, h3, t1, t2, t3⟩ := h
  have hk : ∀ x : Nat, x < S.2.2.2.2.2.size → ¬ S.2.1 ≤ x → H[x]? = S.2.2.2.2.2[x]? := fun x _ hx => hlow x (by omega)
  have hn : ∀ q : Nat, S.2.1 + a ≤ q → S.2.1 ≤ q := fun q hq => by omega
  exact ⟨h1, h2, h3, (vk_S.kept t1 hk).narrow hn, (va_Z.kept t2 hk).narrow hn, t3.imp (fun z => (va_Z.kept z hk).narrow hn) (fun z => (va_Z.kept z hk).narrow hn)⟩
theorem pn_pure {Y' : pg_Y} {d' index ci N : Nat} {T : u_T} {fs : List pg_F} {P' : Option Value → pg_M → Prop} (ok : pg_okV Y') (hlink : Cond.methodLink Y.1.cls index Y'.1 ∈ pg_gd) (hpar : (parseMethodDescriptor Y'.1.desc).map (fun d => d.parameters.length) = some 0) (hΛ0 : Λs 0 = some (.inl (ci, fs))) (hc : pg_cls[ci]? = some (Y'.1.cls, T, N)) (hdd : d' + 1 ≤ d) (hcs9 : c0 ≤ mc ∧ s0 ≤ ms) (hst : (st.map fun v => v.category).sum ≤ 8)
    (hE : ∀ S' : pg_S, pg_Ev S' Λs Y' d' [.ref 0] (pn_sh a M) P') (hnone : ∀ r M2, P' r M2 → r = none ∧ M2.2.2 = (pn_sh a M).2.2) (hdg : decode Y.2.1 pc = .ok (.invokevirtual index, 3))
    (hw : ∀ (b : Nat) (o : va_E), E b = some o → (Λ b).map (pg_ce S M b) = some o)
    (hsh : ∀ (b : Nat) (dd : pg_D), Λs b = some dd → a + b < n ∧ ∃ d2, Λ (a + b) = some d2 ∧ ∀ (H : Heap) (M1 : pg_M), pg_ce (pn_S S a H) (pn_sh a M1) b dd = pg_ce S M1 (a + b) d2)
    (hback : ∀ (b : Nat) (d2 : pg_D), a ≤ b → b < n → Λ b = some d2 → ∃ dd, Λs (b - a) = some dd) (hlast : ∃ d2, Λ (n - 1) = some d2)
    (kk : ∀ M2, P' none M2 → pn_At S Λ Y d (pc + 3) ls st (pn_un a n M M2) (fun _ => none, a, n, c0, s0, mc, ms, nF, PF)) : pn_At S Λ Y d pc ls (.ref a :: st) M (E, a, n, c0, s0, mc, ms, nF, PF) := by
  intro p e s m args below meth c H locs R lj C9 hR hM hL hl
  obtain ⟨o1, o2, o3, o4, o5, o6, o7⟩ := ok
  obtain ⟨g1, g2, g3, g4, g5, g6, g7, g8⟩ := hM
  have g4' : n ≤ 1000 := g4
  have g5' : a < n := g5
  have g8' : s.heap.size + c0 = S.2.1 + n := g8
  have g3' : H.size = S.2.1 + n := g3
  have hR1 : d + 8 ≤ R.frames := hR.1
  have hR2 : 64 * d + 512 ≤ R.locals := hR.2.1
  have had : ∀ b : Nat, a + b < 1000 → pg_ad (pn_S S a H) b = pg_ad S (a + b) := fun b hb => by
    rw [pg_ad_lt hb, pg_ad_lt (S := pn_S S a H) (by omega)]
    show S.2.1 + a + b = S.2.1 + (a + b)
    omega
  have whole : ∀ (b : Nat) (d2 : pg_D), a ≤ b → b < n → Λ b = some d2 → va_at S.2.2.1 pg_cls (pg_ad S b, pg_ce S M b d2) H := fun b d2 h1 h2 h3 => by
    refine g1 b _ ?_
    show pn_g S Λ M E a n b = _
    unfold pn_g
    rw [if_pos ⟨h1, h2⟩]
    cases hE2 : E b with
    | none => simp only [h3, Option.map_some]
    | some o =>
      have := hw b o hE2
      rw [h3] at this
      simp only [Option.map_some] at this
      simp only [this]
  have hlow : ∀ q : Nat, q < S.2.1 → H[q]? = S.2.2.2.2.2[q]? := fun q hq => (g2 q (by show q < S.2.1 + a; omega)).trans (g7 q hq)
  have hR' : pg_R (pn_S S a H) Λs (pn_sh a M) H := by
    refine ⟨fun b dd hb => ?_, fun q _ => rfl, by show S.2.1 + a ≤ H.size; omega⟩
    obtain ⟨hbn, d2, hd2, hce⟩ := hsh b dd hb
    refine ⟨by omega, ?_⟩
    rw [had b (by omega), hce H M]
    exact whole (a + b) d2 (by omega) hbn hd2
  have hK' : pg_K (pn_S S a H) s := pn_KS C9.2.2.2.2.2.1 hlow
  have ha0 : pg_ad (pn_S S a H) 0 = pg_ad S a := had 0 (by omega)
  have hM9 := hE (pn_S S a H) ({ frames := d' + 8, cells := 0, slots := 0, locals := 64 * d' + 512 } : Room) (Nat.le_refl _) (Nat.le_refl _) rfl rfl
  have hrun : va_Run p S.1 e R s m args below meth c H locs c0 s0 0 0 (F0 m pc lj ((Value.ref a :: st).map (pg_up S))) (st.map (pg_up S)) (pg_Q (pn_S S a H) Λs P' (Value.ref (pg_ad (pn_S S a H) 0) :: []).toArray) (fun q => (pn_S S a H).2.1 ≤ q) := by
    refine va_runV (As := []) (b := pg_ad (pn_S S a H) 0) (C := Y'.1.cls) (n := 0) ⟨C9.1, C9.2.1, C9.2.2.1, C9.2.2.2.1, C9.2.2.2.2.1⟩ hM9 (cwV 0 C9.2.2.2.2.1 (fun w hw => ?_) rfl rfl rfl ⟨rfl, o5, o6, hpar⟩ ⟨by show d' + 8 + 1 ≤ R.frames; omega, pn_n1 hdd o7 hR2⟩) ⟨pg_blind, va_recv C9.2.2.2.2.2.1.1 (pg_one (S := pn_S S a H) hR' hΛ0) hc (q0 := 0) rfl, fun U hU hW => ⟨rfl, by rw [hU]; exact hR', pg_K.warm hW hK'⟩⟩ rfl rfl hl.1 (by rw [ha0]; rfl) (lv_room (by rw [List.map_map]; simpa [Function.comp_def, pg_up_cat] using hst)) hdg ⟨by have h7 : mc ≤ R.cells := hR.2.2.1; show c0 + 0 ≤ R.cells; omega, by have h7 : ms ≤ R.slots := hR.2.2.2.1; show s0 + 0 ≤ R.slots; omega⟩
    have hg := pg_good o4
    unfold wsV at hw
    rcases List.mem_append.mp hw with h | h
    · have : w ∈ pg_gd := by
        simp only [List.mem_cons, List.not_mem_nil, or_false] at h
        rcases h with rfl | rfl | rfl | rfl
        · exact hlink
        · exact o1
        · exact o2
        · exact o3
      exact hg w (List.mem_cons_of_mem _ this)
    · exact hg w h
  intro T hT X
  obtain ⟨v, st₀, t, T', L, h0, X', hL', e1, e2, ⟨r, M2, hv, hp, hm⟩, go⟩ := hrun T hT X
  obtain ⟨hr0, hrr⟩ := hnone r M2 hp
  subst hr0
  have hv' : v = none := Outcome.returned.inj hv
  subst hv'
  have hcell : ∀ (b : Nat) (d2 : pg_D), a ≤ b → b < n → Λ b = some d2 → va_at S.2.2.1 pg_cls (pg_ad S b, pg_ce S (pn_un a n M M2) b d2) T'.heap := by
    intro b d2 h1 h2 h3
    obtain ⟨dd, hdd2⟩ := hback b d2 h1 h2 h3
    obtain ⟨_, d3, hd3, hce⟩ := hsh (b - a) dd hdd2
    have hab : a + (b - a) = b := by omega
    have h9 := hm.1 (b - a) dd hdd2
    have h10 := hce H (pn_un a n M M2)
    rw [hab] at hd3 h10
    cases Option.some.inj (h3.symm.trans hd3)
    rw [← h10, pg_ce_off (S := pn_S S a H) (M := M2) (M' := pn_sh a (pn_un a n M M2)) (b := b - a) ?_ ?_ ?_ dd]
    · have h11 := h9.2
      rw [had (b - a) (by omega), hab] at h11
      rw [e1]
      exact h11
    · show (if a ≤ a + (b - a) ∧ a + (b - a) < n then M2.1 (a + (b - a) - a) else M.1 (a + (b - a))) = M2.1 (b - a)
      rw [hab, if_pos ⟨h1, h2⟩]
    · show (if a ≤ a + (b - a) ∧ a + (b - a) < n then M2.2.1 (a + (b - a) - a) else M.2.1 (a + (b - a))) = M2.2.1 (b - a)
      rw [hab, if_pos ⟨h1, h2⟩]
    · rw [hrr]
      rfl
  have hM' : pn_R S Λ (pn_un a n M M2) (fun _ => none) a n c0 s.heap T'.heap := by
    refine ⟨fun b o hg => ?_, fun q hq => ?_, ?_, g4, g5, fun _ _ => rfl, g7, g8⟩
    · unfold pn_g at hg
      split at hg
      · rename_i hb
        simp only at hg
        cases hd : Λ b with
        | none => rw [hd] at hg; cases hg
        | some d2 =>
          rw [hd] at hg
          cases Option.some.inj hg
          exact hcell b d2 hb.1 hb.2 hd
      · cases hg
    · rw [e1, hm.2.1 q hq]
      exact g2 q hq
    · obtain ⟨d2, hd2⟩ := hlast
      have h1 := (hcell (n - 1) d2 (by omega) (by omega) hd2).lt
      have h2 : T'.heap.size ≤ s.heap.size + (c0 + 0) := X'.same.2.2.1
      have h3 : pg_ad S (n - 1) < T'.heap.size := h1
      rw [pg_ad_lt (by omega)] at h3
      omega
  have h9 := kk M2 hp p e s m args below meth c T'.heap (locs ++ L) R lj C9 hR hM' (fun q hq => (List.mem_append.mp hq).elim (hL q) (hL' q)) hl
  obtain ⟨t2, a1, b1⟩ := h9 T' rfl X'
  exact ⟨t2, go t2 a1, b1⟩
end PNU
section PNL
variable {S : pg_S} {Λ : pg_L} {d l9 : Nat} {M : pg_M}
/-- a Line as always, wherever it lies -/
theorem rc_lclear0 (h5 : pg_isX5 Λ l9) : pg_Ev S Λ YX5_clear (d + 1) [.ref l9] M (fun q M' => q = none ∧ (rc_L M' l9 rd_X0.1 rd_X0.2.1 ∧ pg_fr [l9, l9 + 6, l9 + 8, l9 + 9, l9 + 10, l9 + 12, l9 + 13] M M')) := by
  have h8 := h5.r8
  have h9 := h5.r9
  have ad : ∀ (r9 : Nat) (cs : List (Nat × Int32)) (e9 : Nat × Int32) (v9 : Int32) (Mq Mq1 : pg_M), v9 = gr_c e9 → cs.length < 1000 → 3 ≤ r9 → pg_isX8 Λ r9 → pg_fr [r9, r9 + 1] Mq Mq1 → rc_U Mq1 r9 cs → pg_Ev S Λ YX8_add d [.ref r9, .int v9] Mq1 (fun q M' => q = none ∧ (pg_fr [r9, r9 + 1] Mq M' ∧ rc_U M' r9 (cs ++ [e9]))) := by
    intro r9 cs e9 v9 Mq Mq1 hv hc hr h8 g1 g2
    refine pg_Ev.imp ?_ (rc_radd (S := S) (d := d) hv hc hr h8 g2)
    rintro q7 M9 ⟨y1, y2, y3⟩
    exact ⟨y1, g1.trans y3, y2⟩
  have cl : ∀ (r9 : Nat) (Mq : pg_M), pg_isX8 Λ r9 → pg_Ev S Λ YX8_clear d [.ref r9] Mq (fun q M' => q = none ∧ (pg_fr [r9, r9 + 1] Mq M' ∧ rc_U M' r9 [])) := by
    intro r9 Mq h8
    refine pg_Ev.imp ?_ (rc_rclear (S := S) (d := d) h8)
    rintro q7 M9 ⟨y1, y2, y3⟩
    exact ⟨y1, y3.mono (fun b9 hb => by simp at hb ⊢; omega), y2⟩
  refine oX5_clear (sX5_clear_0
    (Q0 := fun M' => pg_fr [l9 + 9, l9 + 9 + 1] (pg_si (pg_si (pg_si (pg_si (pg_si (pg_si (pg_si (pg_sa M (l9 + 6) (fun j => if j < 6 then 0 else M.1 (l9 + 6) j)) l9 10 0) l9 11 0) (l9 + 8) (0 : Int32).toNatClampNeg 3) l9 12 1) l9 13 20) l9 14 0) l9 15 0) M' ∧ rc_U M' (l9 + 9) [])
    (Q1 := fun M' => pg_fr [l9 + 9, l9 + 9 + 1] (pg_si (pg_si (pg_si (pg_si (pg_si (pg_si (pg_si (pg_sa M (l9 + 6) (fun j => if j < 6 then 0 else M.1 (l9 + 6) j)) l9 10 0) l9 11 0) (l9 + 8) (0 : Int32).toNatClampNeg 3) l9 12 1) l9 13 20) l9 14 0) l9 15 0) M' ∧ rc_U M' (l9 + 9) [(2, 0)])
    (Q2 := fun M' => pg_fr [l9 + 9, l9 + 9 + 1] (pg_si (pg_si (pg_si (pg_si (pg_si (pg_si (pg_si (pg_sa M (l9 + 6) (fun j => if j < 6 then 0 else M.1 (l9 + 6) j)) l9 10 0) l9 11 0) (l9 + 8) (0 : Int32).toNatClampNeg 3) l9 12 1) l9 13 20) l9 14 0) l9 15 0) M' ∧ rc_U M' (l9 + 9) [(2, 0), (2, 2)])
    (Q3 := fun M' => pg_fr [l9 + 9, l9 + 9 + 1] (pg_si (pg_si (pg_si (pg_si (pg_si (pg_si (pg_si (pg_sa M (l9 + 6) (fun j => if j < 6 then 0 else M.1 (l9 + 6) j)) l9 10 0) l9 11 0) (l9 + 8) (0 : Int32).toNatClampNeg 3) l9 12 1) l9 13 20) l9 14 0) l9 15 0) M' ∧ rc_U M' (l9 + 9) [(2, 0), (2, 2), (4, 0)])
    (Q4 := fun M' => pg_fr [l9 + 9, l9 + 9 + 1] (pg_si (pg_si (pg_si (pg_si (pg_si (pg_si (pg_si (pg_sa M (l9 + 6) (fun j => if j < 6 then 0 else M.1 (l9 + 6) j)) l9 10 0) l9 11 0) (l9 + 8) (0 : Int32).toNatClampNeg 3) l9 12 1) l9 13 20) l9 14 0) l9 15 0) M' ∧ rc_U M' (l9 + 9) [(2, 0), (2, 2), (4, 0), (2, 1)])
    (Q5 := fun M' => pg_fr [l9 + 9, l9 + 9 + 1] (pg_si (pg_si (pg_si (pg_si (pg_si (pg_si (pg_si (pg_sa M (l9 + 6) (fun j => if j < 6 then 0 else M.1 (l9 + 6) j)) l9 10 0) l9 11 0) (l9 + 8) (0 : Int32).toNatClampNeg 3) l9 12 1) l9 13 20) l9 14 0) l9 15 0) M' ∧ rc_U M' (l9 + 9) [(2, 0), (2, 2), (4, 0), (2, 1), (5, 0)])
    (Q6 := fun M' => ∃ Mq, (pg_fr [l9 + 9, l9 + 9 + 1] (pg_si (pg_si (pg_si (pg_si (pg_si (pg_si (pg_si (pg_sa M (l9 + 6) (fun j => if j < 6 then 0 else M.1 (l9 + 6) j)) l9 10 0) l9 11 0) (l9 + 8) (0 : Int32).toNatClampNeg 3) l9 12 1) l9 13 20) l9 14 0) l9 15 0) Mq ∧ rc_U Mq (l9 + 9) [(2, 0), (2, 2), (4, 0), (2, 1), (5, 0)]) ∧ pg_fr [l9 + 12, l9 + 12 + 1] Mq M' ∧ rc_U M' (l9 + 12) [])
    (Q7 := fun M' => ∃ Mq, (pg_fr [l9 + 9, l9 + 9 + 1] (pg_si (pg_si (pg_si (pg_si (pg_si (pg_si (pg_si (pg_sa M (l9 + 6) (fun j => if j < 6 then 0 else M.1 (l9 + 6) j)) l9 10 0) l9 11 0) (l9 + 8) (0 : Int32).toNatClampNeg 3) l9 12 1) l9 13 20) l9 14 0) l9 15 0) Mq ∧ rc_U Mq (l9 + 9) [(2, 0), (2, 2), (4, 0), (2, 1), (5, 0)]) ∧ pg_fr [l9 + 12, l9 + 12 + 1] Mq M' ∧ rc_U M' (l9 + 12) [(2, 0)])
    h5 ?_ ?_ ?_ ?_ ?_ ?_ ?_ ?_ ?_)
  · intro Nq1 eq1; rw [eq1]; exact cl _ _ h8
  · intro Nq1 eq1 Mq1 g9; exact ad (l9 + 9) [] (2, 0) (-1) _ Mq1 rfl (by decide) (by omega) h8 g9.1 g9.2
  · intro Nq1 eq1 _ _ Mq1 g9; exact ad (l9 + 9) [(2, 0)] (2, 2) (-3) _ Mq1 rfl (by simp) (by omega) h8 g9.1 g9.2
  · intro Nq1 eq1 _ _ _ _ Mq1 g9; exact ad (l9 + 9) [(2, 0), (2, 2)] (4, 0) (-9) _ Mq1 rfl (by simp) (by omega) h8 g9.1 g9.2
  · intro Nq1 eq1 _ _ _ _ _ _ Mq1 g9; exact ad (l9 + 9) [(2, 0), (2, 2), (4, 0)] (2, 1) (-2) _ Mq1 rfl (by simp) (by omega) h8 g9.1 g9.2
  · intro Nq1 eq1 _ _ _ _ _ _ _ _ Mq1 g9; exact ad (l9 + 9) [(2, 0), (2, 2), (4, 0), (2, 1)] (5, 0) (-10) _ Mq1 rfl (by simp) (by omega) h8 g9.1 g9.2
  · intro Nq1 eq1 _ _ _ _ _ _ _ _ _ _ Mq1 g9
    refine pg_Ev.imp ?_ (cl (l9 + 12) Mq1 h9)
    rintro q7 M9 ⟨y1, y2⟩
    exact ⟨y1, Mq1, g9, y2⟩
  · rintro Nq1 eq1 _ _ _ _ _ _ _ _ _ _ _ _ Mq1 ⟨Mq, g9, g8, g7⟩
    refine pg_Ev.imp ?_ (ad (l9 + 12) [] (2, 0) (-1) Mq Mq1 rfl (by decide) (by omega) h9 g8 g7)
    rintro q7 M9 ⟨y1, y2⟩
    exact ⟨y1, Mq, g9, y2⟩
  · rintro Nq1 eq1 _ _ _ _ _ _ _ _ _ _ _ _ _ _ Mq1 ⟨Mq, ⟨u1, u2⟩, u3, u4⟩
    clear eq1
    have fr : pg_fr [l9, l9 + 6, l9 + 8] M (pg_si (pg_si (pg_si (pg_si (pg_si (pg_si (pg_si (pg_sa M (l9 + 6) (fun j => if j < 6 then 0 else M.1 (l9 + 6) j)) l9 10 0) l9 11 0) (l9 + 8) (0 : Int32).toNatClampNeg 3) l9 12 1) l9 13 20) l9 14 0) l9 15 0) := (((((((pg_fr.sa (by simp)).trans (pg_fr.si (by simp))).trans (pg_fr.si (by simp))).trans (pg_fr.si (by simp))).trans (pg_fr.si (by simp))).trans (pg_fr.si (by simp))).trans (pg_fr.si (by simp))).trans (pg_fr.si (by simp))
    have ne : ∀ b9, b9 ≠ l9 + 9 → b9 ≠ l9 + 10 → b9 ≠ l9 + 12 → b9 ≠ l9 + 13 → Mq1.1 b9 = (pg_si (pg_si (pg_si (pg_si (pg_si (pg_si (pg_si (pg_sa M (l9 + 6) (fun j => if j < 6 then 0 else M.1 (l9 + 6) j)) l9 10 0) l9 11 0) (l9 + 8) (0 : Int32).toNatClampNeg 3) l9 12 1) l9 13 20) l9 14 0) l9 15 0).1 b9 := fun b9 z1 z2 z3 z4 => by
      rw [u3.1 b9 (by simp; omega), u1.1 b9 (by simp; omega)]
    have n0 := ne l9 (by omega) (by omega) (by omega) (by omega)
    have n6 := ne (l9 + 6) (by omega) (by omega) (by omega) (by omega)
    have n8 := ne (l9 + 8) (by omega) (by omega) (by omega) (by omega)
    refine ⟨rfl, ⟨?_, ?_, ?_, ?_, ?_, ?_, fun c9 hc => absurd hc (by show ¬ c9 < 0; omega), fun c9 hc => ?_, fun p9 hp => absurd hp (by show ¬ p9 < 0; omega), fun j9 hj => ?_, u2.fr (u3.1 _ (by simp)) (u3.1 _ (by simp)), u4⟩, ?_⟩
    · rw [n0]; simp [pg_si_at, pk_un, pg_si_ne, upd]; rfl
    · rw [n0]; simp [pg_si_at, pk_un, pg_si_ne, upd]; rfl
    · rw [n0]; simp [pg_si_at, pk_un, pg_si_ne, upd]; rfl
    · rw [n0]; simp [pg_si_at, pk_un, pg_si_ne, upd]; rfl
    · rw [n0]; simp [pg_si_at, pk_un, pg_si_ne, upd]; rfl
    · rw [n0]; simp [pg_si_at, pk_un, pg_si_ne, upd]; rfl
    · have e6 : sp_mk (fun e => decide (c9 < e) && decide (rd_X0.1 6 (6 * c9 + e) = 1)) 6 = 0 := by
        have : sp_mk (fun e => decide (c9 < e) && decide (rd_X0.1 6 (6 * c9 + e) = 1)) 6 = sp_mk (fun _ => false) 6 := sp_mk_cong (fun i9 _ => by simp [rd_X0])
        rw [this]; decide
      rw [e6, n6, pg_si_ne (by omega), pg_si_ne (by omega), pg_si_ne (by omega), pg_si_ne (by omega), pg_si_ne (by omega), pg_si_ne (by omega), pg_si_ne (by omega), pg_sa_at, if_pos hc]
      rfl
    · have hj : j9 < 1 := hj
      obtain rfl : j9 = 0 := by omega
      rw [n8, pg_si_ne (by omega), pg_si_ne (by omega), pg_si_ne (by omega), pg_si_ne (by omega), pg_si_at]
      show upd _ 0 3 0 = _
      rw [pk_us]; rfl
    · refine ((fr.mono (Z := [l9, l9 + 6, l9 + 8, l9 + 9, l9 + 10, l9 + 12, l9 + 13]) ?_).trans (u1.mono ?_)).trans (u3.mono ?_)
      all_goals (intro b9 hb; simp at hb ⊢; omega)
end PNL
/-- the cells of a Line, counted from it -/
def pn_l5 : pg_L := fun b => match b with
  | 0 => some (.inl (5, [.inr 1, .inr 2, .inr 3, .inr 4, .inr 5, .inr 6, .inr 7, .inr 8, .inr 9, .inr 12, .inl 0, .inl 0, .inl 0, .inl 0, .inl 0, .inl 0]))
  | 1 => some (.inr (.long, 6, some none))
  | 2 => some (.inr (.int, 6, none))
  | 3 => some (.inr (.int, 6, none))
  | 4 => some (.inr (.int, 6, none))
  | 5 => some (.inr (.int, 6, none))
  | 6 => some (.inr (.int, 6, none))
  | 7 => some (.inr (.int, 8, none))
  | 8 => some (.inr (.int, 12, none))
  | 9 => some (.inl (8, [.inr 10, .inr 11, .inl 0]))
  | 10 => some (.inr (.int, 1000, none))
  | 11 => some (.inr (.int, 32, none))
  | 12 => some (.inl (8, [.inr 13, .inr 14, .inl 0]))
  | 13 => some (.inr (.int, 1000, none))
  | 14 => some (.inr (.int, 32, none))
  | _ => none
theorem pn_l5_is : pg_isX5 pn_l5 0 := ⟨rfl, rfl, rfl, rfl, rfl, rfl, rfl, rfl, rfl, rfl, rfl, rfl, rfl, rfl, rfl⟩
theorem pn_l5_some : ∀ k : Nat, k < 15 → (pn_l5 k).isSome = true := by decide +kernel
theorem pn_l5_sh {S : pg_S} {Λ : pg_L} {a : Nat} (h : pg_isX5 Λ a) (ha : a + 15 ≤ 1000) : ∀ (b : Nat) (dd : pg_D), pn_l5 b = some dd → a + b < a + 15 ∧ ∃ d2, Λ (a + b) = some d2 ∧ ∀ (H : Heap) (M1 : pg_M), pg_ce (pn_S S a H) (pn_sh a M1) b dd = pg_ce S M1 (a + b) d2 := by
  have had : ∀ (H : Heap) (b : Nat), b < 15 → pg_ad (pn_S S a H) b = pg_ad S (a + b) := fun H b hb => by
    rw [pg_ad_lt (S := S) (a := a + b) (by omega), pg_ad_lt (S := pn_S S a H) (a := b) (by omega)]
    show S.2.1 + a + b = S.2.1 + (a + b)
    omega
  intro b dd hb
  match b, hb with
  | 0, hb =>
    cases Option.some.inj hb
    exact ⟨by omega, _, h.1, fun H M1 => by simp [pg_ce, pg_fvs, pg_fv, pg_up, pn_sh, had H 1 (by decide), had H 2 (by decide), had H 3 (by decide), had H 4 (by decide), had H 5 (by decide), had H 6 (by decide), had H 7 (by decide), had H 8 (by decide), had H 9 (by decide), had H 12 (by decide)]⟩
  | 1, hb =>
    cases Option.some.inj hb
    exact ⟨by omega, _, h.2.1, fun H M1 => rfl⟩
  | 2, hb =>
    cases Option.some.inj hb
    exact ⟨by omega, _, h.2.2.1, fun H M1 => rfl⟩
  | 3, hb =>
    cases Option.some.inj hb
    exact ⟨by omega, _, h.2.2.2.1, fun H M1 => rfl⟩
  | 4, hb =>
    cases Option.some.inj hb
    exact ⟨by omega, _, h.2.2.2.2.1, fun H M1 => rfl⟩
  | 5, hb =>
    cases Option.some.inj hb
    exact ⟨by omega, _, h.2.2.2.2.2.1, fun H M1 => rfl⟩
  | 6, hb =>
    cases Option.some.inj hb
    exact ⟨by omega, _, h.2.2.2.2.2.2.1, fun H M1 => rfl⟩
  | 7, hb =>
    cases Option.some.inj hb
    exact ⟨by omega, _, h.2.2.2.2.2.2.2.1, fun H M1 => rfl⟩
  | 8, hb =>
    cases Option.some.inj hb
    exact ⟨by omega, _, h.2.2.2.2.2.2.2.2.1, fun H M1 => rfl⟩
  | 9, hb =>
    cases Option.some.inj hb
    exact ⟨by omega, _, h.2.2.2.2.2.2.2.2.2.1, fun H M1 => by simp [pg_ce, pg_fvs, pg_fv, pg_up, pn_sh, had H 10 (by decide), had H 11 (by decide)]⟩
  | 10, hb =>
    cases Option.some.inj hb
    exact ⟨by omega, _, h.2.2.2.2.2.2.2.2.2.2.1, fun H M1 => rfl⟩
  | 11, hb =>
    cases Option.some.inj hb
    exact ⟨by omega, _, h.2.2.2.2.2.2.2.2.2.2.2.1, fun H M1 => rfl⟩
  | 12, hb =>
    cases Option.some.inj hb
    exact ⟨by omega, _, h.2.2.2.2.2.2.2.2.2.2.2.2.1, fun H M1 => by simp [pg_ce, pg_fvs, pg_fv, pg_up, pn_sh, had H 13 (by decide), had H 14 (by decide)]⟩
  | 13, hb =>
    cases Option.some.inj hb
    exact ⟨by omega, _, h.2.2.2.2.2.2.2.2.2.2.2.2.2.1, fun H M1 => rfl⟩
  | 14, hb =>
    cases Option.some.inj hb
    exact ⟨by omega, _, h.2.2.2.2.2.2.2.2.2.2.2.2.2.2, fun H M1 => rfl⟩
  | k + 15, hb => exact absurd hb (by simp [pn_l5])
theorem pnX5 {S : pg_S} {Λ : pg_L} {d a : Nat} {M : pg_M} (h : pg_isX5 Λ a) (ha : a + 15 ≤ 1000) (hz : ∀ b, a ≤ b → b < a + 15 → M.1 b = (fun _ => 0) ∧ M.2.1 b = fun _ => 0) : pn_Ev S Λ YX5_init (d + 2) a (.inr (5, [.null, .null, .null, .null, .null, .null, .null, .null, .null, .null, .int 0, .int 0, .int 0, .int 0, .int 0, .int 0])) 14 2126 (a + 15) (fun M' => rc_L M' a rd_X0.1 rd_X0.2.1 ∧ (∀ b, ¬ (a ≤ b ∧ b < a + 15) → M'.1 b = M.1 b ∧ M'.2.1 b = M.2.1 b) ∧ M'.2.2 = M.2.2) := by
  have h8 := h.r8
  have h9 := h.r9
  obtain ⟨q0, q1, q2, q3, q4, q5, q6, q7, q8, q9, q10, q11, q12, q13, q14⟩ := id h
  have z0 := hz a (by omega) (by omega)
  have z1 := hz (a + 1) (by omega) (by omega)
  have z2 := hz (a + 2) (by omega) (by omega)
  have z3 := hz (a + 3) (by omega) (by omega)
  have z4 := hz (a + 4) (by omega) (by omega)
  have z5 := hz (a + 5) (by omega) (by omega)
  have z6 := hz (a + 6) (by omega) (by omega)
  have z7 := hz (a + 7) (by omega) (by omega)
  have z8 := hz (a + 8) (by omega) (by omega)
  have z9 := hz (a + 9) (by omega) (by omega)
  have z10 := hz (a + 10) (by omega) (by omega)
  have z11 := hz (a + 11) (by omega) (by omega)
  have z12 := hz (a + 12) (by omega) (by omega)
  have z13 := hz (a + 13) (by omega) (by omega)
  have z14 := hz (a + 14) (by omega) (by omega)
  refine pn_Ev.of M (by decide) rfl rfl (by omega) (by decide) ?_
  refine pn_aload_n (pc := 0) (i := 0) (j := 0) (x := a) dX5_init_0 rfl rfl ?_
  refine pn_obj (pc := 1) (pg_g (pg_t2 20 rfl) rfl) pn_oi1 pn_oi2 (by decide) dX5_init_1 ?_
  refine pn_aload_n (pc := 4) (i := 0) (j := 0) (x := a) dX5_init_4 rfl rfl ?_
  refine pn_bipush (pc := 5) (v := 6) dX5_init_5 rfl ?_
  refine pn_newa (pc := 7) (N := 6) (t0 := 1) (ty := .long) (x := .inr (.inl (fun _ => 0))) dX5_init_7 rfl pn_aclong (by decide) (by decide) (by decide) rfl (fun _ _ q => q) q1 (by show pg_ce S M (a + 1) _ = _; simp only [pg_ce, (z1).2]) (fun _ => rfl) (by omega) ⟨by decide, by decide⟩ ?_
  refine pn_putF (pc := 9) (k := 0) (N := 16) (T := TX5) (ty := .array .long) tyX5 rfl pg_inX5 tyX5_ok nmX5 (by decide) (Nat.le_of_ble_eq_true rfl) ⟨by omega, by omega⟩ (pg_g (pg_t2 52 rfl) rfl) rfl rfl rfl rfl rfl dX5_init_9 ?_
  refine pn_aload_n (pc := 12) (i := 0) (j := 0) (x := a) dX5_init_12 rfl rfl ?_
  refine pn_bipush (pc := 13) (v := 6) dX5_init_13 rfl ?_
  refine pn_newa (pc := 15) (N := 6) (t0 := 0) (ty := .int) (x := .inl (fun _ => 0)) dX5_init_15 rfl pn_acint (by decide) (by decide) (by decide) rfl (fun _ _ q => q) q2 (by show pg_ce S M (a + 2) _ = _; simp only [pg_ce, (z2).1]) (fun _ => rfl) (by omega) ⟨by decide, by decide⟩ ?_
  refine pn_putF (pc := 17) (k := 1) (N := 16) (T := TX5) (ty := .array .int) tyX5 rfl pg_inX5 tyX5_ok nmX5 (by decide) (Nat.le_of_ble_eq_true rfl) ⟨by omega, by omega⟩ (pg_g (pg_t2 54 rfl) rfl) rfl rfl rfl rfl rfl dX5_init_17 ?_
  refine pn_aload_n (pc := 20) (i := 0) (j := 0) (x := a) dX5_init_20 rfl rfl ?_
  refine pn_bipush (pc := 21) (v := 6) dX5_init_21 rfl ?_
  refine pn_newa (pc := 23) (N := 6) (t0 := 0) (ty := .int) (x := .inl (fun _ => 0)) dX5_init_23 rfl pn_acint (by decide) (by decide) (by decide) rfl (fun _ _ q => q) q3 (by show pg_ce S M (a + 3) _ = _; simp only [pg_ce, (z3).1]) (fun _ => rfl) (by omega) ⟨by decide, by decide⟩ ?_
  refine pn_putF (pc := 25) (k := 2) (N := 16) (T := TX5) (ty := .array .int) tyX5 rfl pg_inX5 tyX5_ok nmX5 (by decide) (Nat.le_of_ble_eq_true rfl) ⟨by omega, by omega⟩ (pg_g (pg_t2 57 rfl) rfl) rfl rfl rfl rfl rfl dX5_init_25 ?_
  refine pn_aload_n (pc := 28) (i := 0) (j := 0) (x := a) dX5_init_28 rfl rfl ?_
  refine pn_bipush (pc := 29) (v := 6) dX5_init_29 rfl ?_
  refine pn_newa (pc := 31) (N := 6) (t0 := 0) (ty := .int) (x := .inl (fun _ => 0)) dX5_init_31 rfl pn_acint (by decide) (by decide) (by decide) rfl (fun _ _ q => q) q4 (by show pg_ce S M (a + 4) _ = _; simp only [pg_ce, (z4).1]) (fun _ => rfl) (by omega) ⟨by decide, by decide⟩ ?_
  refine pn_putF (pc := 33) (k := 3) (N := 16) (T := TX5) (ty := .array .int) tyX5 rfl pg_inX5 tyX5_ok nmX5 (by decide) (Nat.le_of_ble_eq_true rfl) ⟨by omega, by omega⟩ (pg_g (pg_t2 61 rfl) rfl) rfl rfl rfl rfl rfl dX5_init_33 ?_
  refine pn_aload_n (pc := 36) (i := 0) (j := 0) (x := a) dX5_init_36 rfl rfl ?_
  refine pn_bipush (pc := 37) (v := 6) dX5_init_37 rfl ?_
  refine pn_newa (pc := 39) (N := 6) (t0 := 0) (ty := .int) (x := .inl (fun _ => 0)) dX5_init_39 rfl pn_acint (by decide) (by decide) (by decide) rfl (fun _ _ q => q) q5 (by show pg_ce S M (a + 5) _ = _; simp only [pg_ce, (z5).1]) (fun _ => rfl) (by omega) ⟨by decide, by decide⟩ ?_
  refine pn_putF (pc := 41) (k := 4) (N := 16) (T := TX5) (ty := .array .int) tyX5 rfl pg_inX5 tyX5_ok nmX5 (by decide) (Nat.le_of_ble_eq_true rfl) ⟨by omega, by omega⟩ (pg_g (pg_t2 63 rfl) rfl) rfl rfl rfl rfl rfl dX5_init_41 ?_
  refine pn_aload_n (pc := 44) (i := 0) (j := 0) (x := a) dX5_init_44 rfl rfl ?_
  refine pn_bipush (pc := 45) (v := 6) dX5_init_45 rfl ?_
  refine pn_newa (pc := 47) (N := 6) (t0 := 0) (ty := .int) (x := .inl (fun _ => 0)) dX5_init_47 rfl pn_acint (by decide) (by decide) (by decide) rfl (fun _ _ q => q) q6 (by show pg_ce S M (a + 6) _ = _; simp only [pg_ce, (z6).1]) (fun _ => rfl) (by omega) ⟨by decide, by decide⟩ ?_
  refine pn_putF (pc := 49) (k := 5) (N := 16) (T := TX5) (ty := .array .int) tyX5 rfl pg_inX5 tyX5_ok nmX5 (by decide) (Nat.le_of_ble_eq_true rfl) ⟨by omega, by omega⟩ (pg_g (pg_t2 66 rfl) rfl) rfl rfl rfl rfl rfl dX5_init_49 ?_
  refine pn_aload_n (pc := 52) (i := 0) (j := 0) (x := a) dX5_init_52 rfl rfl ?_
  refine pn_bipush (pc := 53) (v := 8) dX5_init_53 rfl ?_
  refine pn_newa (pc := 55) (N := 8) (t0 := 0) (ty := .int) (x := .inl (fun _ => 0)) dX5_init_55 rfl pn_acint (by decide) (by decide) (by decide) rfl (fun _ _ q => q) q7 (by show pg_ce S M (a + 7) _ = _; simp only [pg_ce, (z7).1]) (fun _ => rfl) (by omega) ⟨by decide, by decide⟩ ?_
  refine pn_putF (pc := 57) (k := 6) (N := 16) (T := TX5) (ty := .array .int) tyX5 rfl pg_inX5 tyX5_ok nmX5 (by decide) (Nat.le_of_ble_eq_true rfl) ⟨by omega, by omega⟩ (pg_g (pg_t2 67 rfl) rfl) rfl rfl rfl rfl rfl dX5_init_57 ?_
  refine pn_aload_n (pc := 60) (i := 0) (j := 0) (x := a) dX5_init_60 rfl rfl ?_
  refine pn_bipush (pc := 61) (v := 12) dX5_init_61 rfl ?_
  refine pn_newa (pc := 63) (N := 12) (t0 := 0) (ty := .int) (x := .inl (fun _ => 0)) dX5_init_63 rfl pn_acint (by decide) (by decide) (by decide) rfl (fun _ _ q => q) q8 (by show pg_ce S M (a + 8) _ = _; simp only [pg_ce, (z8).1]) (fun _ => rfl) (by omega) ⟨by decide, by decide⟩ ?_
  refine pn_putF (pc := 65) (k := 7) (N := 16) (T := TX5) (ty := .array .int) tyX5 rfl pg_inX5 tyX5_ok nmX5 (by decide) (Nat.le_of_ble_eq_true rfl) ⟨by omega, by omega⟩ (pg_g (pg_t2 70 rfl) rfl) rfl rfl rfl rfl rfl dX5_init_65 ?_
  refine pn_aload_n (pc := 68) (i := 0) (j := 0) (x := a) dX5_init_68 rfl rfl ?_
  refine pn_new (pc := 69) (T := TX8) (N := 3) (ci := 8) (fs := [.null, .null, .int 0]) tyX8 dX5_init_69 (pg_g (pg_t2 21 rfl) rfl) (pg_g (pg_t2 22 rfl) rfl) (pg_g (pg_t1 10 rfl) rfl) rfl pg_inX8 tyX8_ok (by decide +kernel) (by omega) ⟨by decide, by decide⟩ ?_
  refine pn_dup (pc := 72) dX5_init_72 rfl ?_
  refine pn_initN (n := a + 9) (pc := 73) (host := "PegLaws") pnokX8 (pg_t2 23 rfl) (pnX8 (d := d + 1) h8 (by omega) (fun b h1 h2 => hz b (by omega) (by omega))) dX5_init_73 (Nat.le_refl _) (by show 2 ≤ 8; omega) (by unfold pn_up; rw [if_neg (by omega)]) (by omega) ⟨by omega, by omega⟩ ⟨by decide, by decide⟩ (by omega) (by omega) (fun M' e9 b _ => by rw [e9]; exact ⟨rfl, rfl, rfl⟩) (fun M' e9 => ?_)
  rw [e9]
  refine pn_putF (pc := 76) (k := 8) (N := 16) (T := TX5) (ty := .object "PegLaws$Rule") tyX5 rfl pg_inX5 tyX5_ok nmX5 (by decide) (Nat.le_of_ble_eq_true rfl) ⟨by omega, by omega⟩ (pg_g (pg_t2 72 rfl) rfl) rfl rfl rfl rfl rfl dX5_init_76 ?_
  refine pn_aload_n (pc := 79) (i := 0) (j := 0) (x := a) dX5_init_79 rfl rfl ?_
  refine pn_new (pc := 80) (T := TX8) (N := 3) (ci := 8) (fs := [.null, .null, .int 0]) tyX8 dX5_init_80 (pg_g (pg_t2 21 rfl) rfl) (pg_g (pg_t2 22 rfl) rfl) (pg_g (pg_t1 10 rfl) rfl) rfl pg_inX8 tyX8_ok (by decide +kernel) (by omega) ⟨by decide, by decide⟩ ?_
  refine pn_dup (pc := 83) dX5_init_83 rfl ?_
  refine pn_initN (n := a + 12) (pc := 84) (host := "PegLaws") pnokX8 (pg_t2 23 rfl) (pnX8 (d := d + 1) h9 (by omega) (fun b h1 h2 => hz b (by omega) (by omega))) dX5_init_84 (Nat.le_refl _) (by show 2 ≤ 8; omega) (by unfold pn_up; rw [if_neg (by omega)]) (by omega) ⟨by omega, by omega⟩ ⟨by decide, by decide⟩ (by omega) (by omega) (fun M' e9 b _ => by rw [e9]; exact ⟨rfl, rfl, rfl⟩) (fun M' e9 => ?_)
  rw [e9]
  refine pn_putF (pc := 87) (k := 9) (N := 16) (T := TX5) (ty := .object "PegLaws$Rule") tyX5 rfl pg_inX5 tyX5_ok nmX5 (by decide) (Nat.le_of_ble_eq_true rfl) ⟨by omega, by omega⟩ (pg_g (pg_t2 74 rfl) rfl) rfl rfl rfl rfl rfl dX5_init_87 ?_
  refine pn_aload_n (pc := 90) (i := 0) (j := 0) (x := a) dX5_init_90 rfl rfl ?_
  refine pn_pure (pc := 91) (Λs := pn_l5) (T := TX5) (N := 16) (ci := 5) okX5_clear (pg_g (pg_t2 37 rfl) rfl) rfl rfl rfl (Nat.le_refl _) ⟨by decide, by decide⟩ (by decide) (fun S' => rc_lclear0 (S := S') (d := d) (l9 := 0) pn_l5_is) (fun r M2 hp => ⟨hp.1, hp.2.2.2.2⟩) dX5_init_91 (fun b o ho => ?_) (pn_l5_sh h ha) (fun b d2 h1 h2 h3 => ?_) ⟨_, q14⟩ (fun M2 hp => ?_)
  · have hb : b = a := by
      by_cases q : b = a
      · exact q
      · simp [pn_up, q] at ho
    subst hb
    simp only [pn_up, if_true] at ho
    cases Option.some.inj ho
    rw [q0]
    simp [pg_ce, pg_fvs, pg_fv, pg_up, z0]
  · have h4 := pn_l5_some (b - a) (by omega)
    exact Option.isSome_iff_exists.mp h4
  · refine pn_vret (pc := 94) rfl dX5_init_94 ⟨?_, fun b hb => ?_, rfl⟩ (fun b o ho => by cases ho)
    · have e1 : ∀ k : Nat, k < 15 → (pn_un a (a + 15) M M2).1 (a + k) = M2.1 (0 + k) := fun k hk => by
        show (if a ≤ a + k ∧ a + k < a + 15 then M2.1 (a + k - a) else M.1 (a + k)) = M2.1 (0 + k)
        rw [if_pos ⟨by omega, by omega⟩, show a + k - a = 0 + k by omega]
      have e0 : (pn_un a (a + 15) M M2).1 a = M2.1 0 := e1 0 (by omega)
      have h7 := hp.2.1
      unfold rc_L rc_U at h7 ⊢
      rw [e0, e1 2 (by omega), e1 3 (by omega), e1 4 (by omega), e1 5 (by omega), e1 6 (by omega), e1 7 (by omega), e1 8 (by omega), e1 9 (by omega), e1 12 (by omega), e1 10 (by omega), e1 13 (by omega)]
      exact h7
    · exact ⟨if_neg hb, if_neg hb⟩
