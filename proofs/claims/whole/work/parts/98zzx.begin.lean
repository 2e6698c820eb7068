/-! the law's beginning: both objects and the array for an answer are made -/
def lw_o10 : List Value := [.null, .null, .null, .null, .null, .null, .null, .null, .null, .null, .null, .null, .long 0]
def lw_o11 : List Value := [.int 0, .null, .int 0, .int 0, .null, .null, .null, .int 0, .int 0, .null, .null, .null, .null, .int 0, .null, .null, .int 0, .int 0, .int 0, .null, .null, .null, .null, .int 0, .null, .null, .null, .null, .int 0, .int 0, .null, .null, .null, .null, .int 0, .int 0, .null, .long 0]
theorem lw_f10 : ∀ j, j < 13 → defaultValue (tyX10 j) = vp_V lw_o10 j := by decide +kernel
theorem lw_f11 : ∀ j, j < 38 → defaultValue (tyX11 j) = vp_V lw_o11 j := by decide +kernel
def lw_M0 : pg_M := (fun _ _ => 0, fun _ _ => 0, fun _ j => if j = 8 then 169 else if j = 9 then 184 else if j = 10 then 199 else 203)
section LB
variable {S : pg_S} {p : Program} {e : Env} {s : State} {m : MethodId} {args : Array Value} {below : List Frame} {meth : Method} {c : Code} {R : Room} {lj : Array Slot} {Q : State → Prop}
theorem lw_b1 (C9 : pg_C S YL p s m args meth c) (hRm : R = room_1) (hz : S.2.1 = s.heap.size) (hh : S.2.2.2.2.2 = s.heap) (hao : pn_AO s) (hj : lj.size = 7)
    (kk : ∀ (M : pg_M) (H : Heap) (L : List Loc), pn_new10 M → (∀ (b : Nat) (d : pg_D), b < 207 → lw_Λ b = some d → va_at S.2.2.1 pg_cls (pg_ad S b, pg_ce S M b d) H) → (∀ q : Nat, q < S.2.1 → H[q]? = S.2.2.2.2.2[q]?) → H.size = S.2.1 + 207 → (∀ q ∈ L, S.2.1 ≤ q.base) → W p S.1 e R s m args below meth c H L 207 7740 Q (F0 m 7 lj [.ref (pg_ad S 0)])) :
    W p S.1 e R s m args below meth c s.heap [] 0 0 Q (F0 m 0 lj []) := by
  have gd := C9.2.2.2.2.1
  have hKn := C9.2.2.2.2.2.1.1.1 10 _ (show pg_cls[10]? = some (RX10, TX10, 13) from rfl)
  have ead : pg_ad S 0 = s.heap.size := by rw [pg_ad_lt (by omega), ← hz]; rfl
  refine W.newcK (cells := 0) (slots := 0) (n := 13) C9.1 C9.2.1 C9.2.2.2.1 (gd (.classLink RL 8 RX10) (pg_g (pg_t1 26 rfl) rfl)) (gd (.instantiable RX10 13) (pg_g (pg_t1 27 rfl) rfl)) (gd (.initialized RX10) (pg_g (pg_t1 1 rfl) rfl)) rfl dL_law_0 (by rw [hRm]; decide) (by rw [hRm]; decide) hKn.2.1 ead.symm (fun H1 kC hkC e1 z1 o1 => ?_)
  show W p S.1 e R s m args below meth c H1 [] 1 13 Q (F0 m 3 lj [.ref (pg_ad S 0)])
  have hat : va_at S.2.2.1 pg_cls (pg_ad S 0, .inr (10, lw_o10)) H1 := ⟨_, rfl, (u_born tyX10 gd pg_inX10 hKn hkC e1 tyX10_ok).to lw_f10⟩
  have hlow : ∀ q : Nat, q < S.2.1 → H1[q]? = S.2.2.2.2.2[q]? := fun q hq => by rw [o1 q (by rw [ead, ← hz]; exact hq), hh]
  refine lv_dup C9.1 C9.2.1 dL_law_3 rfl ?_
  obtain ⟨o1', o2', o3', o4', o5', o6', o7', o8'⟩ := pnokX10
  have hE := pnX10 (S := S) (Λ := lw_Λ) (d := 0) (M := lw_M0) lw_full (fun b _ => ⟨rfl, rfl⟩) ⟨rfl, rfl, rfl, rfl⟩
  have hM9 := hE ({ frames := 3 + 8, cells := 206, slots := 7727, locals := 64 * 3 + 512 } : Room) (Nat.le_refl _) (Nat.le_refl _) rfl rfl
  have hrun : va_Run p S.1 e R s m args below meth c H1 [] 1 13 206 7727 (F0 m 4 lj [.ref (pg_ad S 0), .ref (pg_ad S 0)]) [.ref (pg_ad S 0)] (pn_Q S lw_Λ 0 207 pn_new10 (Value.ref (pg_ad S 0) :: []).toArray) (fun q => S.2.1 + 0 ≤ q) := by
    refine va_runI (As := []) (b := pg_ad S 0) (n := 0) ⟨C9.1, C9.2.1, C9.2.2.1, C9.2.2.2.1, gd⟩ hM9 (cwI 0 gd (pg_good o3') rfl rfl rfl (gd _ o2') (gd _ lkL_15) (gd _ o1') o7' ⟨o4', o5', o8'⟩ ⟨by rw [hRm]; decide, by rw [hRm]; decide⟩) ⟨pn_blind, fun U hU hW => ⟨rfl, by rw [hU]; exact hat, by rw [hU, z1, ead, hz], fun q hq => by rw [hU]; exact hlow q hq, pn_AO.moved hW.alike hao, pg_K.warm hW C9.2.2.2.2.2.1⟩⟩ rfl rfl hj rfl (lv_room (Nat.le_of_ble_eq_true rfl)) dL_law_4 ⟨by rw [hRm]; decide, by rw [hRm]; decide⟩
  intro T hT X
  obtain ⟨v, st₀, t, T', L, h0, X', hL', e2, e3, ⟨hv, M', hp, hm1, hm2, hm3⟩, go⟩ := hrun T hT X
  have hv' : v = none := Outcome.returned.inj hv
  subst hv'
  obtain ⟨t2, a1, b1⟩ := kk M' T'.heap L hp (fun b d hb hd => by rw [e2]; exact hm1 b d (Nat.zero_le _) hb hd) (fun q hq => by rw [e2, hm2 q (by omega), h0]; exact hlow q hq) (by rw [e2]; exact hm3) (fun q hq => hL' q hq) T' rfl X'
  exact ⟨t2, go t2 a1, b1⟩
theorem lw_blind2 {M : pg_M} {x : Nat} {o : va_E} {Λ : pg_L} : FrameBlind (pn_P2 S Λ M x o) := fun A U g mk h => ⟨h.1, h.2.1, h.2.2.1, h.2.2.2.1, h.2.2.2.2.1, pn_AO.moved (u := U) (U := U.calling g mk A) (Vm.Alike.refl U.vm) h.2.2.2.2.2.1, pg_K.same (s := U) (U := U.calling g mk A) rfl h.2.2.2.2.2.2⟩
theorem lw_b2 {M : pg_M} {H : Heap} {L : List Loc} (C9 : pg_C S YL p s m args meth c) (hRm : R = room_1) (hao : pn_AO s) (hj : lj.size = 7) (hzr : ∀ b, 207 ≤ b → b < 231 → M.1 b = (fun _ => 0) ∧ M.2.1 b = fun _ => 0)
    (hc : ∀ (b : Nat) (d : pg_D), b < 207 → lw_Λ b = some d → va_at S.2.2.1 pg_cls (pg_ad S b, pg_ce S M b d) H) (hlow0 : ∀ q : Nat, q < S.2.1 → H[q]? = S.2.2.2.2.2[q]?) (hsz : H.size = S.2.1 + 207)
    (kk : ∀ (M2 : pg_M) (H2 : Heap) (L2 : List Loc), pn_new11 M M2 → (∀ (b : Nat) (d : pg_D), b < 231 → lw_Λ b = some d → va_at S.2.2.1 pg_cls (pg_ad S b, pg_ce S M2 b d) H2) → (∀ q : Nat, q < S.2.1 → H2[q]? = S.2.2.2.2.2[q]?) → H2.size = S.2.1 + 231 → (∀ q ∈ L2, S.2.1 ≤ q.base) → W p S.1 e R s m args below meth c H2 (L ++ L2) 231 19119 Q (F0 m 15 lj [.ref (pg_ad S 207)])) :
    W p S.1 e R s m args below meth c H L 207 7740 Q (F0 m 8 lj []) := by
  have gd := C9.2.2.2.2.1
  have hKn := C9.2.2.2.2.2.1.1.1 11 _ (show pg_cls[11]? = some (RX11, TX11, 38) from rfl)
  have ead : pg_ad S 207 = H.size := by rw [pg_ad_lt (by omega), hsz]
  refine W.newcK (cells := 207) (slots := 7740) (n := 38) C9.1 C9.2.1 C9.2.2.2.1 (gd (.classLink RL 16 RX11) (pg_g (pg_t6 56 rfl) rfl)) (gd (.instantiable RX11 38) (pg_g (pg_t6 54 rfl) rfl)) (gd (.initialized RX11) (pg_g (pg_t1 13 rfl) rfl)) rfl dL_law_8 (by rw [hRm]; decide) (by rw [hRm]; decide) hKn.2.1 ead.symm (fun H1 kC hkC e1 z1 o1 => ?_)
  show W p S.1 e R s m args below meth c H1 L 208 7778 Q (F0 m 11 lj [.ref (pg_ad S 207)])
  have hat : va_at S.2.2.1 pg_cls (pg_ad S 207, .inr (11, lw_o11)) H1 := ⟨_, rfl, (u_born tyX11 gd pg_inX11 hKn hkC e1 tyX11_ok).to lw_f11⟩
  have hlow : ∀ q : Nat, q < S.2.1 → H1[q]? = S.2.2.2.2.2[q]? := fun q hq => by rw [o1 q (by rw [ead, hsz]; omega)]; exact hlow0 q hq
  have hc1 : ∀ (b : Nat) (d : pg_D), b < 207 → lw_Λ b = some d → va_at S.2.2.1 pg_cls (pg_ad S b, pg_ce S M b d) H1 := fun b d hb hd => (hc b d hb hd).kept (o1 _ (by rw [ead]; exact (hc b d hb hd).lt))
  refine lv_dup C9.1 C9.2.1 dL_law_11 rfl ?_
  obtain ⟨o1', o2', o3', o4', o5', o6', o7', o8'⟩ := pnokX11
  have hE := pnX11 (S := S) (Λ := lw_Λ) (d := 0) (M := M) lw_11 hzr
  have hM9 := hE ({ frames := 2 + 8, cells := 23, slots := 11341, locals := 64 * 2 + 512 } : Room) (Nat.le_refl _) (Nat.le_refl _) rfl rfl
  have hrun : va_Run p S.1 e R s m args below meth c H1 L 208 7778 23 11341 (F0 m 12 lj [.ref (pg_ad S 207), .ref (pg_ad S 207)]) [.ref (pg_ad S 207)] (pn_Q S lw_Λ 0 231 (pn_new11 M) (Value.ref (pg_ad S 207) :: []).toArray) (fun q => S.2.1 + 0 ≤ q) := by
    refine va_runI (As := []) (b := pg_ad S 207) (n := 0) ⟨C9.1, C9.2.1, C9.2.2.1, C9.2.2.2.1, gd⟩ hM9 (cwI 0 gd (pg_good o3') rfl rfl rfl (gd _ o2') (gd _ lkL_18) (gd _ o1') o7' ⟨o4', o5', o8'⟩ ⟨by rw [hRm]; decide, by rw [hRm]; decide⟩) ⟨lw_blind2, fun U hU hW => ⟨rfl, by rw [hU]; exact hat, fun b d hb hd => by rw [hU]; exact hc1 b d hb hd, by rw [hU, z1, ead, hsz], fun q hq => by rw [hU]; exact hlow q hq, pn_AO.moved hW.alike hao, pg_K.warm hW C9.2.2.2.2.2.1⟩⟩ rfl rfl hj rfl (lv_room (Nat.le_of_ble_eq_true rfl)) dL_law_12 ⟨by rw [hRm]; decide, by rw [hRm]; decide⟩
  intro T hT X
  obtain ⟨v, st₀, t, T', L2, h0, X', hL', e2, e3, ⟨hv, M', hp, hm1, hm2, hm3⟩, go⟩ := hrun T hT X
  have hv' : v = none := Outcome.returned.inj hv
  subst hv'
  obtain ⟨t2, a1, b1⟩ := kk M' T'.heap L2 hp (fun b d hb hd => by rw [e2]; exact hm1 b d (Nat.zero_le _) hb hd) (fun q hq => by rw [e2, hm2 q (by omega), h0]; exact hlow q hq) (by rw [e2]; exact hm3) (fun q hq => hL' q hq) T' rfl X'
  exact ⟨t2, go t2 a1, b1⟩
end LB
