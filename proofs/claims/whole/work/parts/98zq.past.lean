/-! arrays of objects, held as they stand while they are filled; the constructor of Past -/
section PNQ
variable {S : pg_S} {Λ : pg_L} {Y : pg_Y} {d pc : Nat} {ls ls' : List (Nat × Value)} {st : List Value} {M : pg_M} {E : pn_E} {a n c0 s0 mc ms nF : Nat} {PF : pg_M → Prop}
abbrev pn_oa (S : pg_S) (C : String) (N : Nat) (f : Nat → Option Nat) : va_E := .inl (S.2.2.2.1 (.object C), N, .inr (.inr (.inr (.inr f))))
theorem pn_anew {C : String} {k : Int32} {N t0 index : Nat} (hdg : decode Y.2.1 pc = .ok (.anewarray index, 3)) (hcl : Cond.classLink Y.1.cls index C ∈ pg_gd) (hov : ∀ U : State, pn_AO U → va_AO C U) (hk : ¬ k < 0) (hN : k.toNatClampNeg = N) (hb : N * 4 ≤ 536870912) (ht : pg_tys[t0]? = some (.object C)) (hn : n < 1000) (hcs : c0 + 1 ≤ mc ∧ s0 + N ≤ ms)
    (kk : pn_At S Λ Y d (pc + 3) ls (.ref n :: st) M (pn_up E n (pn_oa S C N (fun _ => none)), a, n + 1, c0 + 1, s0 + N, mc, ms, nF, PF)) : pn_At S Λ Y d pc ls (.int k :: st) M (E, a, n, c0, s0, mc, ms, nF, PF) := by
  subst hN
  intro p e s m args below meth c H locs R lj C9 hR hM hL hl
  have hR3 : mc ≤ R.cells := hR.2.2.1
  have hR4 : ms ≤ R.slots := hR.2.2.2.1
  refine W.anew (cells := c0) (slots := s0) C9.1 C9.2.1 C9.2.2.2.1 (C9.2.2.2.2.1 _ hcl) (va_AO.use (hov s hR.2.2.2.2.2)) rfl hdg rfl hk hb (by omega) (by omega) (fun cA kA comp f1 f2 f3 f4 => ?_)
  obtain ⟨kA', comp', -, -, -, hq⟩ := (C9.2.2.2.2.2.1.1.2 t0 (S.2.2.2.1 (.object C), .object C) (by simp [List.getElem?_map, ht])).2
  have hcA : S.2.2.2.1 (.object C) = cA := Option.some.inj (hq.symm.trans f1)
  generalize hH1 : H.push ({ cls := cA, slots := Array.replicate k.toNatClampNeg .null, vm := .none } : Cell) = H1
  have hz : H.size = S.2.1 + n := hM.2.2.1
  have z1 : H1.size = S.2.1 + n + 1 := by rw [← hH1, Array.size_push, hz]
  have e1 : H1[H.size]? = some (arrV cA k.toNatClampNeg (fun _ => .null)) := by rw [← hH1, Array.getElem?_push_size, ← arrV_new]
  have o1 : ∀ q : Nat, q < S.2.1 + n → H1[q]? = H[q]? := fun q hq => by rw [← hH1, Array.getElem?_push, if_neg (by omega)]
  have han : a < n := hM.2.2.2.2.1
  have hM1 : pn_R S Λ M (pn_up E n (pn_oa S C k.toNatClampNeg (fun _ => none))) a (n + 1) (c0 + 1) s.heap H1 := by
    refine pn_R.push (M' := M) (o := pn_oa S C k.toNatClampNeg (fun _ => none)) hM hn (fun b hb => ?_) ?_ (fun b hb => ?_) ?_ z1 o1
    · show pn_g S Λ M (pn_up E n (pn_oa S C k.toNatClampNeg (fun _ => none))) a (n + 1) b = pn_g S Λ M E a n b
      have hbn : ¬ b = n := by omega
      unfold pn_g
      by_cases h : a ≤ b
      · rw [if_pos ⟨h, by omega⟩, if_pos ⟨h, hb⟩]
        simp only [pn_up, hbn, if_false]
      · rw [if_neg (by omega), if_neg (by omega)]
    · show pn_g S Λ M (pn_up E n (pn_oa S C k.toNatClampNeg (fun _ => none))) a (n + 1) n = _
      unfold pn_g
      rw [if_pos ⟨by omega, by omega⟩]
      simp only [pn_up, if_true]
    · show (if b = n then _ else E b) = none
      rw [if_neg (by omega)]
      exact hM.2.2.2.2.2.1 b (by show n ≤ b; omega)
    · show H1[pg_ad S n]? = some (vp_cell _ _)
      rw [pg_ad_lt hn, hcA, ← hz]
      exact e1
  have h9 := kk p e s m args below meth c H1 locs R lj C9 hR hM1 hL hl
  rw [List.map_cons, show pg_up S (.ref n) = .ref H.size by simp [pg_up, pg_ad_lt hn, hz]] at h9
  exact h9
theorem pn_held {x : Nat} {o : va_E} {H0 H : Heap} (h : pn_R S Λ M E a n c0 H0 H) (hx : a ≤ x ∧ x < n) (hE : E x = some o) : va_P S.2.2.1 pg_cls [(pg_ad S x, o)] H := by
  intro k q hq
  have hz : k < 1 := (List.getElem?_eq_some_iff.mp hq).1
  rw [show k = 0 by omega] at hq
  cases hq
  refine h.1 x o ?_
  unfold pn_g
  rw [if_pos hx, hE]
theorem pn_getE {ci k N index x : Nat} {T : u_T} {fs : List Value} {v : Value} (hE : E x = some (.inr (ci, fs))) (hx : a ≤ x ∧ x < n) (hv : fs[k]? = some (pg_up S v)) (hc : pg_cls[ci]? = some (Y.1.cls, T, N)) (huw : ∀ w ∈ u_ws Y.1.cls T N, w ∈ pg_gd) (hk : k < N) (hlink : Cond.fieldLink Y.1.cls index (T k).1 (T k).2.1 (T k).2.2.1 ∈ pg_gd) (hdg : decode Y.2.1 pc = .ok (.getfield index, 3))
    (kk : pn_At S Λ Y d (pc + 3) ls (v :: st) M (E, a, n, c0, s0, mc, ms, nF, PF)) : pn_At S Λ Y d pc ls (.ref x :: st) M (E, a, n, c0, s0, mc, ms, nF, PF) :=
  fun p e s m args below meth c H locs R lj C9 hR hM hL hl => va_get (a := pg_ad S x) C9.1 C9.2.1 C9.2.2.2.2.1 huw C9.2.2.2.1 C9.2.2.2.2.2.1.1 (pn_held hM hx hE) 0 rfl hc k hk (C9.2.2.2.2.1 _ hlink) (fun _ h => h) hv hdg (kk p e s m args below meth c H locs R lj C9 hR hM hL hl)
theorem pn_alenE {C : String} {x N t0 : Nat} {f : Nat → Option Nat} {v : Int32} (hE : E x = some (pn_oa S C N f)) (hx : a ≤ x ∧ x < n) (ht : pg_tys[t0]? = some (.object C)) (hv : Int32.ofNat N = v) (hdg : decode Y.2.1 pc = .ok (.arraylength, 1))
    (kk : pn_At S Λ Y d (pc + 1) ls (.int v :: st) M (E, a, n, c0, s0, mc, ms, nF, PF)) : pn_At S Λ Y d pc ls (.ref x :: st) M (E, a, n, c0, s0, mc, ms, nF, PF) :=
  fun p e s m args below meth c H locs R lj C9 hR hM hL hl => va_alen (a := pg_ad S x) C9.1 C9.2.1 C9.2.2.2.2.2.1.1 (pn_held hM hx hE) 0 t0 rfl (ty := .object C) (by simp [List.getElem?_map, ht]) hv hdg (kk p e s m args below meth c H locs R lj C9 hR hM hL hl)
theorem pn_aast {C : String} {T : u_T} {x r N N2 t0 ci : Nat} {f : Nat → Option Nat} {fs : List pg_F} {i : Int32} (hE : E x = some (pn_oa S C N f)) (hx : a ≤ x ∧ x < n) (ht : pg_tys[t0]? = some (.object C)) (hc : pg_cls[ci]? = some (C, T, N2)) (hEr : E r = none) (hr : a ≤ r ∧ r < n) (hΛ : Λ r = some (.inl (ci, fs))) (hin : vp_in i N) (hdg : decode Y.2.1 pc = .ok (.aastore, 1))
    (kk : pn_At S Λ Y d (pc + 1) ls st M (pn_up E x (pn_oa S C N (va_up f i.toNatClampNeg (some (pg_ad S r)))), a, n, c0, s0, mc, ms, nF, PF)) : pn_At S Λ Y d pc ls (.ref r :: .int i :: .ref x :: st) M (E, a, n, c0, s0, mc, ms, nF, PF) := by
  intro p e s m args below meth c H locs R lj C9 hR hM hL hl
  have hK := C9.2.2.2.2.2.1.1
  have hlt : i.toNatClampNeg < N := Nat.not_le.mp fun q => hin (Or.inr q)
  have h0 : ¬ i < 0 := fun q => hin (Or.inl q)
  have hat : va_at S.2.2.1 pg_cls (pg_ad S r, .inr (ci, (pg_fvs M r 0 fs).map (pg_up S))) H := hM.1 r _ (by
    show pn_g S Λ M E a n r = _
    unfold pn_g
    rw [if_pos hr, hEr, hΛ]
    rfl)
  have hax : H[pg_ad S x]? = some (vp_cell (S.2.2.2.1 (.object C)) (N, .inr (.inr (.inr (.inr f))))) := pn_held hM hx hE 0 _ rfl
  obtain ⟨r', hr', cellV, g1, g2, g3, -⟩ := hat
  have hcls := (hK.1 ci _ hc).2
  obtain ⟨kA, comp, k1, k2, k3, -⟩ := (hK.2 t0 (S.2.2.2.1 (.object C), .object C) (by simp [List.getElem?_map, ht])).2
  have hcomp : comp = S.2.2.1.1 ci := Option.some.inj (k3.symm.trans hcls.1)
  subst hcomp
  obtain ⟨kC, hkC, -⟩ := hcls.2
  refine W.aast (a := pg_ad S x) (v := pg_ad S r) (j := i) C9.1 C9.2.1 hax (fun q h => by cases h) (fun h => by cases h) k1 k2 rfl hkC ⟨h0, by show _ < (arrV _ _ _).slots.size; rw [arrV_size]; exact hlt⟩ g1 (fun q h => by rw [g3] at h; cases h) (by rw [g2]; exact hkC) (by rw [g2]; exact va_assign hcls) rfl rfl hdg fun H1 e1 z1 oq => ?_
  have hat1 : va_at S.2.2.1 pg_cls (pg_ad S x, pn_oa S C N (va_up f i.toNatClampNeg (some (pg_ad S r)))) H1 := by
    show H1[pg_ad S x]? = some (vp_cell _ _)
    rw [e1, vp_cell_q, vp_cell_q, arrV_store]
    congr 2
    funext q
    by_cases hq : q = i.toNatClampNeg
    · subst hq
      simp [updV, va_up, va_rf]
    · simp [updV, va_up, hq]
  have hM1 := pn_R.put hM hx hat1 z1 oq
  exact kk p e s m args below meth c H1 (locs ++ [⟨pg_ad S x, i.toNatClampNeg⟩]) R lj C9 hR hM1 (fun q hq => (List.mem_append.mp hq).elim (hL q) (fun h => by
    cases List.mem_singleton.mp h
    show S.2.1 + a ≤ pg_ad S x
    rw [pg_ad_lt (by have h7 : n ≤ 1000 := hM.2.2.2.1; omega)]
    omega)) hl
end PNQ
