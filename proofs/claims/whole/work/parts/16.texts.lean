def pg_words : List Int32 := ["cloth wide weight worth pegs winds yards gusts clash pulls dries hang take wash buy hour plain sheet flag wool not and or wind mass size "].flatMap (fun t => t.toList.map (fun c => Int32.ofNat c.toNat))
def pg_wlen : Int32 := 137
def pg_wch (i : Nat) : Int32 := pg_words.getD i 0
/-- the place of a sign among ()<=+-*; -/
def pg_sgx (x : Int32) : Int32 := if x = 40 then 0 else if x = 41 then 1 else if x = 60 then 2 else if x = 61 then 3 else if x = 43 then 4 else if x = 45 then 5 else if x = 42 then 6 else if x = 59 then 7 else -1
section PGT
variable {S : pg_S} {Λ : pg_L} {Y : pg_Y} {d pc index : Nat} {ls : List (Nat × Value)} {st : List Value} {M : pg_M} {P : Option Value → pg_M → Prop}
theorem pg_topi {x : Int32} (kk : ∀ y : Int32, y = x → pg_At S Λ Y d pc ls (.int y :: st) M P) : pg_At S Λ Y d pc ls (.int x :: st) M P := kk x rfl
theorem pg_topj {x : Int64} (kk : ∀ y : Int64, y = x → pg_At S Λ Y d pc ls (.long y :: st) M P) : pg_At S Λ Y d pc ls (.long x :: st) M P := kk x rfl
theorem pg_str0 : ("PegLaws$Reader", 231, "cloth wide weight worth pegs winds yards gusts clash pulls dries hang take wash buy hour plain sheet flag wool not and or wind mass size ", 1000) ∈ pg_strs := List.mem_cons_self
theorem pg_str1 : ("PegLaws$Reader", 223, "()<=+-*;", 1001) ∈ pg_strs := List.mem_cons_of_mem _ List.mem_cons_self
theorem pg_ldcS {q : Nat} {tx : String} (hq : (Y.1.cls, index, tx, q) ∈ pg_strs) (hq1 : 1000 ≤ q := by decide) (hdg : decode Y.2.1 pc = .ok (.ldc index, 2)) (kk : pg_At S Λ Y d (pc + 2) ls (.ref q :: st) M P) : pg_At S Λ Y d pc ls st M P := by
  intro p e s m args below meth c H locs R lj C9 hR hM hL hl
  have h9 := kk p e s m args below meth c H locs R lj C9 hR hM hL hl
  have e1 : (Value.ref q :: st).map (pg_up S) = .ref (S.2.2.2.2.1 q) :: st.map (pg_up S) := by
    simp [pg_up, pg_ad, Nat.not_lt.mpr hq1]
  rw [e1] at h9
  exact va_ldcS C9.1 C9.2.1 C9.2.2.2.1 (C9.2.2.2.2.2.1.2.2 _ hq) hdg h9
theorem pg_txlen (hlink : Cond.methodLink Y.1.cls index yJ0_length_8abf5 ∈ pg_gd) (hst : (st.map fun v => v.category).sum ≤ 8) (hdg : decode Y.2.1 pc = .ok (.invokevirtual index, 3)) (kk : pg_At S Λ Y (d + 1) (pc + 3) ls (.int pg_wlen :: st) M P) : pg_At S Λ Y (d + 1) pc ls (.ref 1000 :: st) M P := sorry
theorem pg_txchar {i : Int32} (hlink : Cond.methodLink Y.1.cls index yJ0_charAt_5068e ∈ pg_gd) (hi : vp_in i 137) (hst : (st.map fun v => v.category).sum ≤ 8) (hdg : decode Y.2.1 pc = .ok (.invokevirtual index, 3)) (kk : pg_At S Λ Y (d + 1) (pc + 3) ls (.int (pg_wch i.toNatClampNeg) :: st) M P) : pg_At S Λ Y (d + 1) pc ls (.int i :: .ref 1000 :: st) M P := sorry
theorem pg_txidx {x : Int32} (hlink : Cond.methodLink Y.1.cls index yJ0_indexOf_0f7a4 ∈ pg_gd) (hst : (st.map fun v => v.category).sum ≤ 8) (hdg : decode Y.2.1 pc = .ok (.invokevirtual index, 3)) (kk : pg_At S Λ Y (d + 1) (pc + 3) ls (.int (pg_sgx x) :: st) M P) : pg_At S Λ Y (d + 1) pc ls (.int x :: .ref 1001 :: st) M P := sorry
end PGT
