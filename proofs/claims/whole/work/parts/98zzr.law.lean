/-! the law calls its own rests -/
section LQC2
variable {S : pg_S} {Λ : pg_L} {Y : pg_Y} {d pc : Nat} {ls : List (Nat × Value)} {st : List Value} {M : pg_M} {b L : Nat} {xs : Nat → Int32} {k sl : Nat} {x1 x2 x3 x4 : Int32} {fs : List pg_F}
theorem rt_P.blind {As : List Value} : FrameBlind (rt_P S Λ As M) := fun A U g mk h => ⟨h.1, h.2.1, pg_K.same (s := U) (U := U.calling g mk A) rfl h.2.2.1, rt_C.moved (u := U) (U := U.calling g mk A) (Vm.Alike.refl U.vm) h.2.2.2⟩
theorem lr_in : Cond.codeWith yL_rests cL_rests 7 (some .int) [(0, 14, 17, 13)] ∈ pg_gd := pg_g (pg_t5 202 rfl) rfl
theorem lr_good : ∀ w ∈ lr_ws, w ∈ pg_gd := fun w hw => (List.mem_cons.mp hw).elim (fun q => by rw [q]; exact lr_in) id
set_option maxHeartbeats 1000000 in
theorem lq_callR (hY : Y.1.cls = RL) (h231 : Λ 231 = some (.inr (.long, 1, some none))) (h0 : Λ 0 = some (.inl (10, fs))) (hk : k + 1 ≤ 601024 ∧ sl + 6 ≤ 7293033) (hst : (st.map fun v => v.category).sum ≤ 8) (hdg : decode Y.2.1 pc = .ok (.invokestatic 124, 3))
    (kk : ∀ r M', lr_P (sp_qrests x1 x2 x3 x4) M r M' → lq_At S Λ Y d (pc + 3) ls (r.toList ++ st) M' (b, L, xs, k + 1, sl + 6)) : lq_At S Λ Y d pc ls (.ref 231 :: .int x4 :: .int x3 :: .int x2 :: .int x1 :: .ref 0 :: st) M (b, L, xs, k, sl) := by
  intro p e s m args below meth c H locs R lj C9 hR hM hL hl T hT X
  have hRm : R = room_1 := hR.1
  have hC : rt_C S s := hR.2.2.2.2.2.2.2.2
  have hgd := C9.2.2.2.2.1
  have hown : s.vm.findClass RL = some m.cls := by rw [← hY]; exact C9.2.2.2.1
  obtain ⟨mk, methM, cM, hnamed, hmethM, -, -, -, -, -, -, hsigM⟩ := Cond.codeWith_spec (hgd _ lr_in)
  have hstatic : methM.isStatic = true := Cond.static_spec hnamed hmethM (hgd (.static yL_rests) (pg_g (pg_t5 201 rfl) rfl))
  obtain ⟨kP, hkP, -⟩ := className_of_methodNamed hnamed
  have hini : (Cond.initialized RL).before args s = true := hgd (.initialized RL) (pg_g (pg_t1 0 rfl) rfl)
  have hinitP : kP.init = .initialized := Cond.initialized_spec (findClass_of_methodNamed hnamed) hkP hini
  have hlen : ([.ref (pg_ad S 0), .int x1, .int x2, .int x3, .int x4, .ref (pg_ad S 231)] : List Value).length = methM.sig.parameters.length := by
    have h4 : (parseMethodDescriptor yL_rests.desc).map (fun d => d.parameters.length) = some 6 := rfl
    rw [hsigM] at h4
    exact (Option.some.inj h4).symm
  obtain ⟨vm₁, X₁, hstep₁⟩ := X.invokestatic C9.1 hown (hgd _ lkL_124) hnamed hmethM hstatic hkP hinitP (by decide) (g := F0 m pc lj ((.ref 231 :: .int x4 :: .int x3 :: .int x2 :: .int x1 :: .ref 0 :: st).map (pg_up S))) rfl (argsL := [.ref (pg_ad S 0), .int x1, .int x2, .int x3, .int x4, .ref (pg_ad S 231)]) (rest := st.map (pg_up S)) hlen rfl (by rw [C9.2.1]; exact hdg)
  have hB := va_backW (p := p) (e := e) (below := below) (s := s) (sargs := args) (len := 3) (W := 8) (R := R) (lr_Ev (S := S) (Λ := Λ) (M := M) (a := x1) (b := x2) (c := x3) (w := x4) h231 h0 (rm := ({ frames := 40, cells := 1, slots := 6, locals := 4000 } : Room)) (Nat.le_refl _) (Nat.le_refl _) rfl rfl) rt_P.blind rfl rfl (by rw [hRm]; decide) (by rw [hRm]; show 8 + (7 + 11) + 4000 ≤ 84000; decide)
    (fun w hw a' U hW => word_at hW (good_of_word (List.mem_filter.mp (lr_good w hw)).2) (hgd _ (lr_good w hw))) List.mem_cons_self (fun a' U hW => word_at hW (good_of_word rfl) hini)
  obtain ⟨v, B, X', hpost, hsteps⟩ := hB m meth c ⟨T.setVm vm₁, locs, k, sl⟩ (F0 m pc lj (st.map (pg_up S))) (.invokestatic 124) mk ([.ref (pg_ad S 0), .int x1, .int x2, .int x3, .int x4, .ref (pg_ad S 231)] : List Value).toArray X₁ rfl (by rw [C9.2.2.1]; exact hl.1) (by rw [C9.2.1]; exact hdg) (lv_room (by rw [List.map_map]; simpa [Function.comp_def, pg_up_cat] using hst)) (X₁.named hnamed)
    ⟨by rw [hRm]; show k + 1 ≤ 601024; omega, by rw [hRm]; show sl + 6 ≤ 7293033; omega, rfl, by show pg_R S Λ M T.heap; rw [hT]; exact hM, pg_K.warm (U := T.setVm vm₁) X₁.warmed C9.2.2.2.2.2.1, rt_C.moved (U := T.setVm vm₁) X₁.warmed.alike hC⟩
  obtain ⟨U9, l9, c9, s9⟩ := B
  obtain ⟨g9, mk9, t9, L9, e1, e2, ⟨r, M2, hv, hp, hm⟩, e3, hL9, e4, e5⟩ := hpost
  dsimp only [Pt.U, Pt.locs, Pt.cells, Pt.slots] at X' e1 e2 e3 e4 e5 hsteps
  subst e3 e4 e5
  have hv' : v = r.map (pg_up S) := Outcome.returned.inj hv
  subst hv'
  have h9 := kk r M2 hp p e s m args below meth c U9.heap (locs ++ L9) R lj C9 hR (by rw [e1]; exact hm) (fun q hq => (List.mem_append.mp hq).elim (hL q) (hL9 q)) hl
  rw [List.map_append, show r.toList.map (pg_up S) = (r.map (pg_up S)).toList by cases r <;> rfl] at h9
  obtain ⟨t2, a1, b1⟩ := h9 U9 rfl X'
  exact ⟨t2, hstep₁ _ fun acts => by rw [doInvoke_state]; exact hsteps.trans a1, b1⟩
end LQC2
