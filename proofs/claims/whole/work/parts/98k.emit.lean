/-! the table of words; the reference lays code -/
theorem sp_words_tk : sp_words = tk_words := by decide +kernel
theorem rm_G.W {M : pg_M} {G : sp_G} (hg : rm_G M G) : rm_W M := by
  intro w9 hw
  have hl : w9 < tk_words.length := by rw [tk_wlen]; exact hw
  have h1 : sp_words[w9]? = some (tk_words.getD w9 []) := by
    rw [sp_words_tk, List.getD_eq_getElem?_getD, List.getElem?_eq_getElem hl]; rfl
  exact hg.w w9 _ h1
/-- the code of a law that is being read, from a9 on -/
def rm_cd (M : pg_M) (a9 : Nat) (cs : List (Nat × Int32)) : Prop := M.1 207 13 = nI (a9 + cs.length) ∧ ∀ (j9 : Nat) (e9 : Nat × Int32), cs[j9]? = some e9 → M.1 214 (1100 + a9 + j9) = nI e9.1 ∧ M.1 215 (1100 + a9 + j9) = e9.2
/-- what laying code leaves as it was -/
def rm_ef (a9 : Nat) (M M' : pg_M) : Prop := pg_fr [207, 214, 215] M M' ∧ (∀ j9, j9 ≠ 13 → M'.1 207 j9 = M.1 207 j9) ∧ ∀ j9, j9 < 1100 + a9 → M'.1 214 j9 = M.1 214 j9 ∧ M'.1 215 j9 = M.1 215 j9
section PGR
variable {S : pg_S} {Λ : pg_L} {d a9 : Nat} {M : pg_M} {cs : List (Nat × Int32)}
theorem rm_emit {o9 : Nat} {v9 : Int32} (hX : pg_isX11 Λ) (hE : rm_cd M a9 cs) (hlt : a9 + cs.length < 1100) : pg_Ev S Λ YX11_emit d [.ref 207, .int (nI o9), .int v9] M (fun r M' => r = none ∧ (rm_cd M' a9 (cs ++ [(o9, v9)]) ∧ rm_ef a9 M M')) := by
  obtain ⟨u1, u2⟩ := hE
  have e1 : (1100 : Int32) + M.1 207 13 = nI (1100 + a9 + cs.length) := by rw [u1, show (1100 : Int32) = nI 1100 from rfl, nI_add, Nat.add_assoc]
  have ecl : (nI (1100 + a9 + cs.length)).toNatClampNeg = 1100 + a9 + cs.length := nI_clamp (by omega)
  refine oX11_emit (sX11_emit_0 hX (by rw [e1]; exact vp_in_nI (by omega) (by decide)) (by rw [pg_si_ne (by decide), e1]; exact vp_in_nI (by omega) (by decide)) ?_)
  intro Nq1 eq1
  rw [pg_si_ne (show (207 : Nat) ≠ 214 by decide), e1, ecl] at eq1
  have r13 : Nq1.1 207 = M.1 207 := by rw [eq1, pg_si_ne (by decide), pg_si_ne (by decide)]
  have r14 : Nq1.1 214 = upd (M.1 214) (1100 + a9 + cs.length) (nI o9) := by rw [eq1, pg_si_ne (by decide), pg_si_at]
  have r15 : Nq1.1 215 = upd (M.1 215) (1100 + a9 + cs.length) v9 := by rw [eq1, pg_si_at, pg_si_ne (by decide)]
  refine ⟨rfl, ⟨?_, fun j9 e9 hj => ?_⟩, ?_, fun j9 hj => ?_, fun j9 hj => ⟨?_, ?_⟩⟩
  · rw [pg_si_at, pk_us, r13, u1, nI_1]; simp [Nat.add_assoc]
  · rw [pg_si_ne (by decide), pg_si_ne (by decide), r14, r15]
    by_cases z9 : j9 = cs.length
    · subst z9
      rw [List.getElem?_append_right (Nat.le_refl _), Nat.sub_self] at hj
      rw [← Option.some.inj hj, pk_us, pk_us]
      exact ⟨rfl, rfl⟩
    · have hjl : j9 < cs.length := by
        have := (List.getElem?_eq_some_iff.mp hj).1
        simp at this; omega
      rw [List.getElem?_append_left hjl] at hj
      rw [pk_un (by omega), pk_un (by omega)]
      exact u2 j9 e9 hj
  · rw [eq1]; exact ((pg_fr.si (by simp)).trans (pg_fr.si (by simp))).trans (pg_fr.si (by simp))
  · rw [pg_si_at, pk_un hj, r13]
  · rw [pg_si_ne (by decide), r14, pk_un (by omega)]
  · rw [pg_si_ne (by decide), r15, pk_un (by omega)]
end PGR
