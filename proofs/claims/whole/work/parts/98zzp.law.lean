section LQC
variable {S : pg_S} {Λ : pg_L} {Y : pg_Y} {d pc : Nat} {ls : List (Nat × Value)} {st : List Value} {M : pg_M} {b L : Nat} {xs : Nat → Int32} {k sl : Nat}
/-- a call without cells, from the law -/
theorem lq_callV {Y' : pg_Y} {d' index : Nat} {As : List Value} {x ci N : Nat} {T : u_T} {fs : List pg_F} {P' : Option Value → pg_M → Prop} (ok : pg_okV Y') (hlink : Cond.methodLink Y.1.cls index Y'.1 ∈ pg_gd) (hn : (parseMethodDescriptor Y'.1.desc).map (fun d => d.parameters.length) = some As.length) (hΛ : Λ x = some (.inl (ci, fs))) (hc : pg_cls[ci]? = some (Y'.1.cls, T, N)) (hdd : d' ≤ 1000) (hk : k ≤ 601024 ∧ sl ≤ 7293033) (hst : (st.map fun v => v.category).sum ≤ 8)
    (hE : pg_Ev S Λ Y' d' (.ref x :: As) M P') (hdg : decode Y.2.1 pc = .ok (.invokevirtual index, 3)) (kk : ∀ r M', P' r M' → lq_At S Λ Y d (pc + 3) ls (r.toList ++ st) M' (b, L, xs, k, sl)) : lq_At S Λ Y d pc ls (As.reverse ++ .ref x :: st) M (b, L, xs, k, sl) := by
  intro p e s m args below meth c H locs R lj C9 hR hM hL hl
  obtain ⟨o1, o2, o3, o4, o5, o6, o7⟩ := ok
  have hRm : R = room_1 := hR.1
  have hM9 := hE ({ frames := d' + 8, cells := 0, slots := 0, locals := 64 * d' + 512 } : Room) (Nat.le_refl _) (Nat.le_refl _) rfl rfl
  have hrun : va_Run p S.1 e R s m args below meth c H locs k sl 0 0 (F0 m pc lj ((As.reverse ++ Value.ref x :: st).map (pg_up S))) (st.map (pg_up S)) (pg_Q S Λ P' (Value.ref (pg_ad S x) :: As.map (pg_up S)).toArray) (fun q => S.2.1 ≤ q) := by
    refine va_runV (As := As.map (pg_up S)) (b := pg_ad S x) (C := Y'.1.cls) (n := As.length) ⟨C9.1, C9.2.1, C9.2.2.1, C9.2.2.2.1, C9.2.2.2.2.1⟩ hM9 (cwV As.length C9.2.2.2.2.1 (fun w hw => ?_) rfl rfl rfl ⟨rfl, o5, o6, hn⟩ ⟨by rw [hRm]; show d' + 8 + 1 ≤ 2048; omega, by rw [hRm]; show 8 + (Y'.2.2.1 + 11) + (64 * d' + 512) ≤ 84000; omega⟩) ⟨pg_blind, va_recv C9.2.2.2.2.2.1.1 (pg_one hM hΛ) hc (q0 := 0) rfl, fun U hU hW => ⟨rfl, by rw [hU]; exact hM, pg_K.warm hW C9.2.2.2.2.2.1⟩⟩ rfl (by simp) hl.1 (by simp [pg_up]) (lv_room (by rw [List.map_map]; simpa [Function.comp_def, pg_up_cat] using hst)) hdg ⟨by rw [hRm]; show k + 0 ≤ 601024; omega, by rw [hRm]; show sl + 0 ≤ 7293033; omega⟩
    have hg := pg_good o4
    unfold wsV at hw
    rcases List.mem_append.mp hw with h | h
    · have : w ∈ pg_gd := by
        simp only [List.mem_cons, List.not_mem_nil, or_false] at h
        rcases h with rfl | rfl | rfl | rfl
        · exact hlink
        · exact o1
        · exact o2
        · exact o3
      exact hg w (List.mem_cons_of_mem _ this)
    · exact hg w h
  intro T hT X
  obtain ⟨v, st₀, t, T', L9, h0, X', hL', e1, e2, ⟨r, M2, hv, hp, hm⟩, go⟩ := hrun T hT X
  have hv' : v = r.map (pg_up S) := Outcome.returned.inj hv
  subst hv'
  have h9 := kk r M2 hp p e s m args below meth c T'.heap (locs ++ L9) R lj C9 hR (by rw [e1]; exact hm) (fun q hq => (List.mem_append.mp hq).elim (hL q) (hL' q)) hl
  rw [List.map_append, show r.toList.map (pg_up S) = (r.map (pg_up S)).toList by cases r <;> rfl] at h9
  obtain ⟨t2, a1, b1⟩ := h9 T' rfl X'
  exact ⟨t2, go t2 a1, b1⟩
end LQC
