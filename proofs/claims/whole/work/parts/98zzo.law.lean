section LQM
variable {S : pg_S} {Λ : pg_L} {Y : pg_Y} {d pc : Nat} {ls : List (Nat × Value)} {st : List Value} {M : pg_M} {P : lq_B}
theorem lq_up {s : State} (h : S.2.2.2.2.1 1300 = P.1) : pg_up S (.ref 1300) = .ref P.1 := by simp [pg_up, pg_ad, h]
theorem lq_old {s : State} {H : Heap} {locs : List Loc} (h1 : S.2.1 = s.heap.size) (h2 : S.2.2.2.2.2 = s.heap) (hM : pg_R S Λ M H) (hL : ∀ q ∈ locs, S.2.1 ≤ q.base) : va_S (fun q => S.2.1 ≤ q) s.heap H locs :=
  ⟨by rw [← h1]; exact hM.2.2, fun q hq _ => by rw [hM.2.1 q (by omega), h2], hL⟩
theorem lq_sld {i : Int32} (hin : vp_in i P.2.1) (hdg : decode Y.2.1 pc = .ok (.iaload, 1)) (kk : lq_At S Λ Y d (pc + 1) ls (.int (P.2.2.1 i.toNatClampNeg) :: st) M P) : lq_At S Λ Y d pc ls (.int i :: .ref 1300 :: st) M P := by
  intro p e s m args below meth c H locs R lj C9 hR hM hL hl
  obtain ⟨r1, r2, r3, r4, r5, r6, r7, r8⟩ := id hR
  rw [List.map_cons, List.map_cons, lq_up (s := s) r7]
  exact va_sld C9.1 C9.2.1 r3 r4 (by show ¬ S.2.1 ≤ P.1; omega) (lq_old r5 r6 hM hL) hin hdg (kk p e s m args below meth c H locs R lj C9 hR hM hL hl)
theorem lq_slen (hdg : decode Y.2.1 pc = .ok (.arraylength, 1)) (kk : lq_At S Λ Y d (pc + 1) ls (.int (Int32.ofNat P.2.1) :: st) M P) : lq_At S Λ Y d pc ls (.ref 1300 :: st) M P := by
  intro p e s m args below meth c H locs R lj C9 hR hM hL hl
  obtain ⟨r1, r2, r3, r4, r5, r6, r7, r8⟩ := id hR
  rw [List.map_cons, lq_up (s := s) r7]
  exact va_slen C9.1 C9.2.1 r3 r4 (by show ¬ S.2.1 ≤ P.1; omega) (lq_old r5 r6 hM hL) hdg (kk p e s m args below meth c H locs R lj C9 hR hM hL hl)
end LQM
