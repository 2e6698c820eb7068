/-! the law, from its entry to its end -/
theorem lw_u : Cond.isRef (.static Bundle.tN "UNASSIGNED_STACK" Bundle.steD) ∈ kn_L := by decide +kernel
theorem lw_s : Cond.isRef (.static Bundle.tN "SUPPRESSED_SENTINEL" Bundle.listD) ∈ kn_L := by decide +kernel
theorem rt_st.of {A : Array Value} {s : State} {n d : String} (h1 : (Cond.laysStatic Bundle.tN n d).before A s = true) (h2 : (Cond.isRef (.static Bundle.tN n d)).before A s = true) : rt_st n d s.heap.size s s.heap := by
  obtain ⟨c, k, i, f, a, cell, q1, q2, q3, q4, q5, q6, q7, q8, q9⟩ := Cond.laysStatic_spec h1
  obtain ⟨u, hu⟩ := Cond.staticRefV q2 q3 q4 q5 q6 h2
  exact ⟨c, k, i, f, a, cell, u.v, q1, q2, q3, q4, q5, q6, q7, q8, q9, hu, u.2, (Array.getElem?_eq_some_iff.mp q5).1⟩
section LS
variable {S : pg_S} {p : Program} {e : Env} {s : State} {m : MethodId} {args : Array Value} {below : List Frame} {meth : Method} {c : Code} {R : Room} {lj : Array Slot} {b L : Nat} {xs : Nat → Int32}
def lw_M1 (M : pg_M) : pg_M := (fun b => if b < 207 then M.1 b else fun _ => 0, fun b => if b < 207 then M.2.1 b else fun _ => 0, M.2.2)
theorem lw_begin (C9 : pg_C S YL p s m args meth c) (hR : R = room_1 ∧ args = #[Value.ref b] ∧ va_X b L xs s s.heap ∧ b < s.heap.size ∧ S.2.1 = s.heap.size ∧ S.2.2.2.2.2 = s.heap ∧ S.2.2.2.2.1 1300 = b ∧ pn_AO s ∧ rt_C S s) (hl : lv_has lj 7 (pg_ml S [(0, .ref 1300)])) (hL : L ≤ 3584) : W p S.1 e R s m args below meth c s.heap [] 0 0 (lw_Z below args s) (F0 m 0 lj []) := by
  have hRm := hR.1
  have hao := hR.2.2.2.2.2.2.2.1
  have gd := C9.2.2.2.2.1
  refine lw_b1 C9 hRm hR.2.2.2.2.1 hR.2.2.2.2.2.1 hao hl.1 (fun M1 H1 L1 hp1 hc1 hlow1 hsz1 hL1 => ?_)
  refine lv_astore_n (lv' := pg_ml S [(1, .ref 0), (0, .ref 1300)]) C9.1 C9.2.1 dL_law_7 rfl hl (by decide) rfl (fun lj1 hl1 => ?_)
  refine lw_b2 (M := lw_M1 M1) C9 hRm hao hl1.1 (fun b h1 _ => ⟨if_neg (by omega), if_neg (by omega)⟩) (fun b d hb hd => by rw [pg_ce_off (S := S) (M := M1) (M' := lw_M1 M1) (b := b) (if_pos hb) (if_pos hb) rfl d]; exact hc1 b d hb hd) hlow1 hsz1 (fun M2 H2 L2 hp2 hc2 hlow2 hsz2 hL2 => ?_)
  refine lv_astore_n (lv' := pg_ml S [(2, .ref 207), (1, .ref 0), (0, .ref 1300)]) C9.1 C9.2.1 dL_law_15 rfl hl1 (by decide) rfl (fun lj2 hl2 => ?_)
  refine lv_iconst (v := 1) C9.1 C9.2.1 dL_law_16 rfl ?_
  have ead : pg_ad S 231 = H2.size := by rw [pg_ad_lt (by omega), hsz2]
  refine va_newaK (atype := .long) (cells := 231) (slots := 19119) (n := 1) (N := 1) (rest := []) C9.1 C9.2.1 (gd _ pn_aclong) rfl dL_law_17 rfl (by decide) (by decide) (by decide) (by rw [hRm]; decide) (by rw [hRm]; decide) ead.symm (fun H3 cA e3 z3 o3 har hNm => ?_)
  show W p S.1 e R s m args below meth c H3 (L1 ++ L2) 232 19120 (lw_Z below args s) (F0 m 19 lj2 [.ref (pg_ad S 231)])
  have hK := (C9.2.2.2.2.2.1.1.2 1 (S.2.2.2.1 .long, .long) rfl).2
  have hcA : S.2.2.2.1 .long = cA := Option.some.inj ((show s.vm.findClass ("[" ++ (FieldType.long).toString) = some (S.2.2.2.1 .long) from hK).symm.trans hNm)
  have hM3 : pg_R S lw_Λ (pg_sl2 M2 231 (fun _ => 0)) H3 := by
    refine ⟨fun x d hx => ?_, fun q hq => by rw [o3 q (by rw [ead, hsz2]; omega)]; exact hlow2 q hq, by rw [z3, ead, hsz2]; omega⟩
    have hx2 := lw_dom hx
    refine ⟨by omega, ?_⟩
    by_cases h231 : x = 231
    · subst h231
      cases Option.some.inj (lw_out.symm.trans hx)
      show H3[pg_ad S 231]? = some (vp_cell _ _)
      rw [e3, hcA]
      simp [pg_sl2]
      rfl
    · have hlt : x < 231 := by omega
      rw [pg_sl2_off S M2 231 (fun _ => 0) x d h231]
      exact (hc2 x d hlt hx).kept (o3 _ (by rw [ead]; exact (hc2 x d hlt hx).lt))
  refine lv_astore_n (lv' := pg_ml S [(3, .ref 231), (2, .ref 207), (1, .ref 0), (0, .ref 1300)]) C9.1 C9.2.1 dL_law_19 rfl hl2 (by decide) rfl (fun lj3 hl3 => ?_)
  refine lv_iconst (v := 0) C9.1 C9.2.1 dL_law_20 rfl ?_
  refine lv_istore (lv' := pg_ml S (lw_ls 0)) C9.1 C9.2.1 dL_law_21 hl3 (by decide) rfl (fun lj4 hl4 => ?_)
  have hG : lw_I (pg_sl2 M2 231 (fun _ => 0)) sp_G0 0 := by
    have f2 := hp2.2.2.2.2.2.2.2.2
    refine ⟨(rc_first hp1).away (fun x hx => ?_) (fun x hx => ?_) ?_, (rm_first hp2).off (fun x _ hx => ⟨rfl, if_neg (by omega)⟩), sp_G0_ok⟩
    · show M2.1 x = M1.1 x
      rw [f2.1 x (by simp; omega)]
      exact if_pos hx
    · show (if x = 231 then _ else M2.2.1 x) = M1.2.1 x
      rw [if_neg (by omega), f2.2.1 x (by simp; omega)]
      exact if_pos hx
    · exact f2.2.2
  have h9 := lc_loop (S := S) (Λ := lw_Λ) (b := b) (L := L) (xs := xs) lw_full lw_11 rfl rfl lw_out hL 512 0 _ sp_G0 rfl hG p e s m args below meth c H3 (L1 ++ L2) R lj4 C9 hR hM3 (fun q hq => (List.mem_append.mp hq).elim (hL1 q) (hL2 q)) hl4
  exact lw_more (cells' := 1000) (slots' := 100000) (by omega) (by omega) h9
end LS
