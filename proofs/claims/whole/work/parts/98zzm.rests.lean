/-! the law's own rests, by contract -/
abbrev lr_ws : List Cond := Cond.codeWith yL_rests cL_rests 7 (some .int) [(0, 14, 17, 13)] :: pg_gd
def lr_P (v : Option Int32) (M : pg_M) : Option Value → pg_M → Prop := fun r M' => match v with
  | some x => r = some (.int 0) ∧ M' = pg_sj M 231 0 x.toInt64
  | none => r = some (.int 1) ∧ M' = M
section LRE
variable {S : pg_S} {Λ : pg_L} {M : pg_M} {a b c w : Int32} {fs : List pg_F}
set_option maxHeartbeats 1000000 in
theorem lr_Ev (h231 : Λ 231 = some (.inr (.long, 1, some none))) (h0 : Λ 0 = some (.inl (10, fs))) {rm : Room} (h1 : 40 ≤ rm.frames) (h2 : 4000 ≤ rm.locals) (h3 : rm.cells = 1) (h4 : rm.slots = 6) : Met S.1 yL_rests lr_ws rm (rt_P S Λ [.ref 0, .int a, .int b, .int c, .int w, .ref 231] M) (pg_Q S Λ (lr_P (sp_qrests a b c w) M)) 1 6 (fun q => S.2.1 ≤ q) := by
  refine va_MetW (cc := cL_rests) (maxL := 7) (ret := some .int) (hh := [(0, 14, 17, 13)]) (by decide) rfl ?_
  intro p e s m args below meth cd s₁ B hml hv
  obtain ⟨rfl, hR, hK, hC⟩ := hv
  have hts := atoms_spec (ws := lr_ws) B.pre
  have hgd := fun w hw => hts w (List.mem_cons_of_mem _ hw)
  obtain ⟨m9, meth9, c9, g1, g2, g3, -, -, g6, -⟩ := Cond.codeWith_spec (hts _ List.mem_cons_self)
  cases B.named.symm.trans g1
  cases B.method.symm.trans g2
  cases (Stand.of_body B).code.symm.trans g3
  obtain ⟨x, htab, hx⟩ : ∃ x : ExceptionTableEntry, cd.exceptionTable.toList = [x] ∧ (x.startPc, x.endPc, x.handlerPc, x.catchType) = (0, 14, 17, 13) := by
    cases hT : cd.exceptionTable.toList with
    | nil => rw [hT] at g6; cases g6
    | cons x t =>
      rw [hT] at g6
      have g7 := List.cons.inj g6
      cases t with
      | nil => exact ⟨x, rfl, g7.1⟩
      | cons y t => cases g7.2
  have hl := lv_entry (([.ref 0, .int a, .int b, .int c, .int w, .ref 231] : List Value).map (pg_up S)) (n := 7) (by rw [pg_sl]; exact Nat.le_of_ble_eq_true rfl)
  rw [pg_args] at hl
  rw [lg_entry_eq]
  generalize (lg_sl (([.ref 0, .int a, .int b, .int c, .int w, .ref 231] : List Value).map (pg_up S)) ++ List.replicate (7 - (lg_sl (([.ref 0, .int a, .int b, .int c, .int w, .ref 231] : List Value).map (pg_up S))).length) Slot.unset).toArray = lj at hl ⊢
  refine lv_aload B.exec B.bytes dL_rests_0 (pg_loc (v := .ref 231) (k := 5) hl rfl) ?_
  refine lv_iconst B.exec B.bytes dL_rests_2 rfl ?_
  refine lv_aload_n B.exec B.bytes dL_rests_3 rfl (pg_loc (v := .ref 0) (k := 0) hl rfl) ?_
  refine lv_iload_n B.exec B.bytes dL_rests_4 rfl (pg_loc (v := .int a) (k := 1) hl rfl) ?_
  refine lv_iload_n B.exec B.bytes dL_rests_5 rfl (pg_loc (v := .int b) (k := 2) hl rfl) ?_
  refine lv_iload_n B.exec B.bytes dL_rests_6 rfl (pg_loc (v := .int c) (k := 3) hl rfl) ?_
  refine lv_iload B.exec B.bytes dL_rests_7 (pg_loc (v := .int w) (k := 4) hl rfl) ?_
  refine rt_callR (M := M) (rest := [.int 0, .ref (pg_ad S 231)]) B.exec B.bytes hml (findClass_of_methodNamed B.named) hgd hK hC htab hx ⟨h1, h2, by show 0 + 1 ≤ rm.cells; omega, by show 0 + 6 ≤ rm.slots; omega⟩ hR h0 hl.1 (by exact Nat.le_of_ble_eq_true rfl) (fun v H1 L hv hR1 hL1 => ?_) (fun z H1 L hv hR1 hL1 => ?_)
  · refine lv_i2l B.exec B.bytes dL_rests_12 rfl ?_
    obtain ⟨q, hq⟩ := pg_ws_at (S := S) (M := M) (hR1.1 231 _ h231).1 h231
    refine va_last (a := pg_ad S 231) B.exec B.bytes hK.1 (pg_ws_P hR1) pg_ws_D (pg_VS hL1) q 1 hq rfl (by unfold vp_in; decide) dL_rests_13 (fun H2 locs2 hP2 hD2 hS2 => ?_)
    refine lv_goto (tgt := 21) B.exec B.bytes dL_rests_14 rfl ?_
    refine lv_iconst B.exec B.bytes dL_rests_21 rfl ?_
    exact W.iret B.exec B.bytes B.returns (fun t h _ => ⟨some (.int 0), pg_sj M 231 0 v.toInt64, rfl, by rw [hv]; exact ⟨rfl, rfl⟩, by rw [h]; exact pg_R.set hR1 h231 hq (by simp [pg_ce, pg_sj]) (pg_sj_off S M 231 _ _) hP2 hS2⟩) hS2.2.2 dL_rests_22 B.notSynchronized
  · refine lv_astore B.exec B.bytes dL_rests_17 hl (by omega) rfl (fun lj' hl' => ?_)
    refine lv_iconst B.exec B.bytes dL_rests_19 rfl ?_
    exact W.iret B.exec B.bytes B.returns (fun t h _ => ⟨some (.int 1), M, rfl, by rw [hv]; exact ⟨rfl, rfl⟩, by rw [h]; exact hR1⟩) (fun q hq => hL1 q (by simpa using hq)) dL_rests_20 B.notSynchronized
end LRE
