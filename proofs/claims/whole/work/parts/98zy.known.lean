section PNJ
variable {s : State} {A : Array Value}
abbrev kn_L : List Cond := flatC (Jvm.Cond.and given_1 narrow_1)
def kn_tm (i : Nat) : Term := if i = 0 then .string "PegLaws$Reader" 231 else .string "PegLaws$Reader" 223
def kn_fv (i : Nat) : Term := .field (kn_tm i) "java/lang/String" "value" "[B"
theorem kn_m1 : ∀ i : Nat, i < 2 → Cond.exactly (kn_tm i) "java/lang/String" ∈ kn_L := by decide +kernel
theorem kn_m2 : ∀ i : Nat, i < 2 → Cond.eq (.field (kn_tm i) "java/lang/String" "coder" "B") (.int 0) ∈ kn_L := by decide +kernel
theorem kn_m3 : ∀ i : Nat, i < 2 → Cond.arrayOf (kn_fv i) .byte ∈ kn_L := by decide +kernel
theorem kn_m4 : ∀ i : Nat, i < 2 → Cond.eq (.length (kn_fv i)) (.int (Int32.ofNat (([137, 8] : List Nat).getD i 0))) ∈ kn_L := by decide +kernel
theorem kn_m5 : ∀ i : Nat, i < 2 → ∀ j : Nat, j < ([137, 8] : List Nat).getD i 0 → Cond.eq (.elem (kn_fv i) (.int (Int32.ofNat j))) (.int ((([pg_words, pg_signs] : List (List Int32)).getD i []).getD j 0)) ∈ kn_L := by decide +kernel
theorem kn_m6 : Cond.not (Cond.eq (kn_tm 0) (kn_tm 1)) ∈ kn_L := by decide +kernel
theorem kn_m7 : Cond.exactly (.string "PegLaws" 263) "java/lang/String" ∈ kn_L := by decide +kernel
theorem kn_m8 : Cond.exactly (.string "PegLaws" 272) "java/lang/String" ∈ kn_L := by decide +kernel
theorem kn_m9 : Cond.eq (.static "java/lang/String" "COMPACT_STRINGS" "Z") (.int 1) ∈ kn_L := by decide +kernel
theorem kn_m10 : Cond.isRef (.static "jdk/internal/util/Preconditions" "SIOOBE_FORMATTER" "Ljava/util/function/BiFunction;") ∈ kn_L := by decide +kernel
/-- all that the methods' face asks of the tables, at the start -/
theorem kn_K (l : Launch) (b0 : Nat) (hts : ∀ w ∈ lw_tbl, w.before A s = true) (hgv : (Jvm.Cond.and given_1 narrow_1).before A s = true) : ∃ S : pg_S, S.1 = l ∧ S.2.1 = s.heap.size ∧ S.2.2.2.2.2 = s.heap ∧ S.2.2.2.2.1 1300 = b0 ∧ pg_K S s := by
  have hs := flat_of_before _ hgv
  obtain ⟨D, hD⟩ := kn_D hts
  obtain ⟨tc, hT⟩ := kn_T hts
  have hA : ∀ a : Nat, a < s.heap.size → ¬ s.heap.size ≤ a := fun a h => by omega
  obtain ⟨adK, adV, hS, hev⟩ := vk_Sof (s := s) (args := A) (N := 2) (tm := kn_tm) (len := [137, 8]) (byt := [pg_words, pg_signs]) (A := fun q => s.heap.size ≤ q) (by decide) (fun i hi => hs _ (kn_m1 i hi)) (fun i hi => hs _ (kn_m2 i hi)) (fun i hi => hs _ (kn_m3 i hi)) (fun i hi => hs _ (kn_m4 i hi)) (fun i hi j hj => hs _ (kn_m5 i hi j hj)) (fun i j hi hj hij => by
    rcases (by omega : (i = 0 ∧ j = 1) ∨ (i = 1 ∧ j = 0)) with ⟨rfl, rfl⟩ | ⟨rfl, rfl⟩
    · exact Or.inl (hs _ kn_m6)
    · exact Or.inr (hs _ kn_m6)) hA
  obtain ⟨a3, c3, cA3, kA3, q3, -⟩ := Cond.exactly_spec (args := A) (first := s) (o := none) (s := s) (idx := []) (hs _ kn_m7)
  obtain ⟨a4, c4, cA4, kA4, q4, -⟩ := Cond.exactly_spec (args := A) (first := s) (o := none) (s := s) (idx := []) (hs _ kn_m8)
  have hcs : va_Z "java/lang/String" "COMPACT_STRINGS" "Z" (.int 1) (fun q => s.heap.size ≤ q) s s.heap := va_Zof (hts _ (pg_t3 13 rfl)) (hts _ (pg_t1 15 rfl)) (va_eqi (hs _ kn_m9)) hA
  have hsi : va_Zq "jdk/internal/util/Preconditions" "SIOOBE_FORMATTER" "Ljava/util/function/BiFunction;" (fun q => s.heap.size ≤ q) s s.heap := va_Zqof (hts _ (pg_t3 29 rfl)) (hts _ (pg_t1 17 rfl)) (hs _ kn_m10) hA
  have key : ∀ t0 : Nat, (va_Z "jdk/internal/util/Preconditions" "SIOOBE_FORMATTER" "Ljava/util/function/BiFunction;" .null (fun q => s.heap.size ≤ q) s s.heap ∨ va_Z "jdk/internal/util/Preconditions" "SIOOBE_FORMATTER" "Ljava/util/function/BiFunction;" (.ref t0) (fun q => s.heap.size ≤ q) s s.heap) → ∃ S : pg_S, S.1 = l ∧ S.2.1 = s.heap.size ∧ S.2.2.2.2.2 = s.heap ∧ S.2.2.2.2.1 1300 = b0 ∧ pg_K S s := by
    intro t0 hz
    refine ⟨(l, s.heap.size, D, tc, (fun k => if k = 1300 then b0 else if k = 1002 then a3 else if k = 1003 then a4 else if k = 1200 then t0 else if 1100 ≤ k then adV (k - 1100) else adK (k - 1000)), s.heap), rfl, rfl, rfl, rfl, ⟨hD, hT⟩, kn_N hts, ?_, ⟨⟨fun i hi => ?_, fun i j hi hj e => ?_⟩, hcs, hz⟩⟩
    · intro q hq
      unfold pg_strs at hq
      simp only [List.mem_cons, List.not_mem_nil, or_false] at hq
      rcases hq with rfl | rfl | rfl | rfl
      · exact vk_R.of (A := A) (hts _ (pg_t3 3 rfl)) (hev 0 (by omega))
      · exact vk_R.of (A := A) (hts _ (pg_t3 56 rfl)) (hev 1 (by omega))
      · exact vk_R.of (A := A) (hts _ (pg_t6 10 rfl)) q3
      · exact vk_R.of (A := A) (hts _ (pg_t6 42 rfl)) q4
    · have h9 := hS.1 i hi
      rcases (by omega : i = 0 ∨ i = 1) with rfl | rfl
      · exact h9
      · exact h9
    · rcases (by omega : i = 0 ∨ i = 1) with rfl | rfl <;> rcases (by omega : j = 0 ∨ j = 1) with rfl | rfl <;> first | rfl | exact hS.2 _ _ hi hj e
  rcases hsi with h | ⟨t, h⟩
  · exact key 0 (Or.inl h)
  · exact key t (Or.inr h)
end PNJ
