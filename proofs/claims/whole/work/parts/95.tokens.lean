/-! TOKENS: the specification; and how the class's Reader reads one -/
def tk_L (c9 : Nat) : Bool := decide (97 ≤ c9) && decide (c9 ≤ 122)
def tk_D (c9 : Nat) : Bool := decide (48 ≤ c9) && decide (c9 ≤ 57)
def tk_W (c9 : Nat) : Bool := decide (c9 = 10) || decide (c9 = 32)
def tk_G (c9 : Nat) : Bool := decide (c9 = 40) || decide (c9 = 41) || decide (c9 = 60) || decide (c9 = 61) || decide (c9 = 43) || decide (c9 = 45) || decide (c9 = 42) || decide (c9 = 59)
/-- the signs of a sort that stand from one on -/
def tk_run (p : Nat → Bool) (tp : List Nat) (b9 : Nat) : List Nat := (tp.drop b9).takeWhile p
/-- where the token stands that is read from one on -/
def tk_p (tp : List Nat) (b9 : Nat) : Nat := b9 + (tk_run tk_W tp b9).length
def tk_ls (tp : List Nat) (b9 : Nat) : List Nat := tk_run tk_L tp (tk_p tp b9)
def tk_ds (tp : List Nat) (b9 : Nat) : List Nat := tk_run tk_D tp (tk_p tp b9)
/-- the token: 0 the end, 1 broken, 2 a word of letters, 3 a number, 4 a sign -/
def tk_t (tp : List Nat) (b9 : Nat) : Nat × List Nat := match tp[tk_p tp b9]? with
  | none => (0, [])
  | some c9 => if tk_L c9 then (if (tk_ls tp b9).length ≤ 8 then (2, (tk_ls tp b9).map (· - 96)) else (1, [])) else if tk_D c9 then (if (tk_ds tp b9).length ≤ 4 then (3, [sp_w 10 ((tk_ds tp b9).map (· - 48))]) else (1, [])) else if tk_G c9 then (4, [c9]) else (1, [])
/-- where the next one is read from -/
def tk_b (tp : List Nat) (b9 : Nat) : Nat := min tp.length (tk_p tp b9 + max 1 (max (tk_ls tp b9).length (tk_ds tp b9).length))
def tk_i (tp : List Nat) : Nat → Nat
  | 0 => 0
  | k9 + 1 => tk_b tp (tk_i tp k9)
theorem tk_run_in {p : Nat → Bool} {tp : List Nat} {b9 j9 : Nat} (hj : j9 < (tk_run p tp b9).length) : ∃ c9, tp[b9 + j9]? = some c9 ∧ (tk_run p tp b9)[j9]? = some c9 ∧ p c9 = true := by
  have h1 : (tk_run p tp b9)[j9]? = some (tk_run p tp b9)[j9] := List.getElem?_eq_getElem hj
  have pre : tk_run p tp b9 <+: tp.drop b9 := List.takeWhile_prefix p
  have h2 := pre.getElem hj
  have h3 : j9 < (tp.drop b9).length := Nat.lt_of_lt_of_le hj pre.length_le
  refine ⟨(tk_run p tp b9)[j9], ?_, h1, ?_⟩
  · rw [← List.getElem?_drop, List.getElem?_eq_getElem h3, h2]
  · have := List.getElem_mem hj
    unfold tk_run at this
    exact List.all_eq_true.mp List.all_takeWhile _ this
theorem tk_run_le {p : Nat → Bool} {tp : List Nat} {b9 : Nat} (hb : b9 ≤ tp.length) : b9 + (tk_run p tp b9).length ≤ tp.length := by
  have pre : tk_run p tp b9 <+: tp.drop b9 := List.takeWhile_prefix p
  have := pre.length_le
  rw [List.length_drop] at this
  omega
theorem tk_run_out {p : Nat → Bool} {tp : List Nat} {b9 c9 : Nat} (hc : tp[b9 + (tk_run p tp b9).length]? = some c9) : p c9 = false := by
  have key : ∀ (l9 : List Nat) (e9 : Nat), l9[(l9.takeWhile p).length]? = some e9 → p e9 = false := by
    intro l9
    induction l9 with
    | nil => intro e9 z9; simp at z9
    | cons a9 l9 ih9 =>
      intro e9 z9
      cases q9 : p a9 with
      | true =>
        rw [List.takeWhile_cons_of_pos q9, List.length_cons, List.getElem?_cons_succ] at z9
        exact ih9 e9 z9
      | false =>
        rw [List.takeWhile_cons_of_neg (by rw [q9]; decide)] at z9
        simp at z9
        rw [← z9]; exact q9
  refine key (tp.drop b9) c9 ?_
  rw [List.getElem?_drop]; exact hc
theorem tk_w_app (B9 x9 : Nat) (l9 : List Nat) : sp_w B9 (l9 ++ [x9]) = B9 * sp_w B9 l9 + x9 := by unfold sp_w; rw [List.foldl_append]; rfl
theorem tk_lN_add (a9 b9 : Nat) : lN a9 + lN b9 = lN (a9 + b9) := (Int64.ofNat_add a9 b9).symm
theorem tk_lN_mul (a9 b9 : Nat) : lN a9 * lN b9 = lN (a9 * b9) := (Int64.ofNat_mul a9 b9).symm
/-- the words that the class knows -/
def tk_split : List Int32 → List Nat → List (List Nat)
  | [], _ => []
  | c9 :: r9, acc => if c9 = 32 then acc.reverse :: tk_split r9 [] else tk_split r9 ((c9.toNatClampNeg - 96) :: acc)
def tk_words : List (List Nat) := tk_split pg_words []
def tk_kn (y9 : Int64) : Int32 := match tk_words.findIdx? (fun w9 => decide (lN (sp_w 32 w9) = y9)) with
  | some k9 => nI k9
  | none => -1
/-- which word it is, as the class tells it -/
def tk_kw (l9 : List Nat) : Int32 := tk_kn (lN (sp_w 32 l9))
theorem tk_len : pg_words.length = 137 := by decide +kernel
theorem tk_lett : ∀ j9, j9 < 137 → ¬ pg_wch j9 = 32 → ((pg_wch j9 - 97) + 1).toInt64 = lN ((pg_wch j9).toNatClampNeg - 96) := fun j9 hj => co_dec (N := 137) (P := fun j9 => ¬ pg_wch j9 = 32 → ((pg_wch j9 - 97) + 1).toInt64 = lN ((pg_wch j9).toNatClampNeg - 96)) (by decide +kernel) hj
theorem tk_drop (l9 : List Int32) {j9 : Nat} (hj : j9 < l9.length) : l9.drop j9 = l9.getD j9 0 :: l9.drop (j9 + 1) := by
  rw [List.drop_eq_getElem_cons hj]
  congr 1
  rw [List.getD_eq_getElem?_getD, List.getElem?_eq_getElem hj]; rfl
section PGR
variable {S : pg_S} {Λ : pg_L} {d : Nat} {M : pg_M} {tp : List Nat}
theorem rc_isLetter {c9 : Nat} (hc : c9 < 2 ^ 31) : pg_Ev S Λ YX7_isLetter d [.int (nI c9)] M (fun r M' => ∃ v, r = some (.int v) ∧ (v = b2i (tk_L c9) ∧ M' = M)) := by
  refine oX7_isLetter (sX7_isLetter_0 (fun q9 => ⟨_, rfl, ?_, rfl⟩) (fun q9 q8 => ⟨_, rfl, ?_, rfl⟩) (fun q9 q8 => ⟨_, rfl, ?_, rfl⟩))
  all_goals rw [show (97 : Int32) = nI 97 from rfl, nI_ltI (by omega) (by omega)] at q9
  · unfold tk_L; rw [decide_eq_false (by omega)]; rfl
  · rw [show (122 : Int32) = nI 122 from rfl, nI_ltI (by omega) (by omega)] at q8
    unfold tk_L; rw [decide_eq_false (show ¬ c9 ≤ 122 by omega), Bool.and_false]; rfl
  · rw [show (122 : Int32) = nI 122 from rfl, nI_ltI (by omega) (by omega)] at q8
    unfold tk_L; rw [decide_eq_true (show c9 ≤ 122 by omega), decide_eq_true (show 97 ≤ c9 by omega)]; rfl
theorem rc_isDigit {c9 : Nat} (hc : c9 < 2 ^ 31) : pg_Ev S Λ YX7_isDigit d [.int (nI c9)] M (fun r M' => ∃ v, r = some (.int v) ∧ (v = b2i (tk_D c9) ∧ M' = M)) := by
  refine oX7_isDigit (sX7_isDigit_0 (fun q9 => ⟨_, rfl, ?_, rfl⟩) (fun q9 q8 => ⟨_, rfl, ?_, rfl⟩) (fun q9 q8 => ⟨_, rfl, ?_, rfl⟩))
  all_goals rw [show (48 : Int32) = nI 48 from rfl, nI_ltI (by omega) (by omega)] at q9
  · unfold tk_D; rw [decide_eq_false (by omega)]; rfl
  · rw [show (57 : Int32) = nI 57 from rfl, nI_ltI (by omega) (by omega)] at q8
    unfold tk_D; rw [decide_eq_false (show ¬ c9 ≤ 57 by omega), Bool.and_false]; rfl
  · rw [show (57 : Int32) = nI 57 from rfl, nI_ltI (by omega) (by omega)] at q8
    unfold tk_D; rw [decide_eq_true (show c9 ≤ 57 by omega), decide_eq_true (show 48 ≤ c9 by omega)]; rfl
theorem rc_knownWord {y9 : Int64} : pg_Ev S Λ YX7_knownWord (d + 1) [.long y9] M (fun r M' => ∃ v, r = some (.int v) ∧ (v = tk_kn y9 ∧ M' = M)) := by
  refine oX7_knownWord (sX7_knownWord_0 ?_)
  refine pg_loop (σ := List Nat × Nat) (fun j9 st => pg_At S Λ YX7_knownWord (d + 1) 7 [(0, .long y9), (2, .int (nI st.2)), (3, .long (lN (sp_w 32 st.1.reverse))), (5, .int (nI j9))] [] M _) (fun j9 st => tk_words.findIdx? (fun w9 => decide (lN (sp_w 32 w9) = y9)) = ((tk_split (pg_words.drop j9) st.1).findIdx? (fun w9 => decide (lN (sp_w 32 w9) = y9))).map (· + st.2)) 137 ?_ ?_ 0 ([], 0) (by decide) (by simp [tk_words])
  · rintro ⟨acc, k9⟩ h9
    have cq : pg_wlen ≤ nI 137 := by decide
    refine sX7_knownWord_7 (fun _ => ⟨_, rfl, ?_, rfl⟩) (fun c => absurd cq c) (fun c => absurd cq c) (fun c => absurd cq c) (fun c => absurd cq c)
    unfold tk_kn
    rw [h9, List.drop_eq_nil_of_le (Nat.le_of_eq tk_len)]
    rfl
  · rintro j9 ⟨acc, k9⟩ hj h9 ihq
    simp only at h9 ⊢
    have cq : ¬ pg_wlen ≤ nI j9 := nI_ge hj (by decide)
    have hcl : (nI j9).toNatClampNeg = j9 := nI_clamp (by omega)
    have hdr : pg_words.drop j9 = pg_wch j9 :: pg_words.drop (j9 + 1) := tk_drop pg_words (by rw [tk_len]; exact hj)
    rw [hdr] at h9
    refine sX7_knownWord_7 (fun c => absurd c cq) (fun _ => vp_in_nI hj (by decide)) ?_ ?_ ?_
    · intro _ q9 q8
      rw [hcl] at q9
      rw [lg_cmp_eq] at q8
      rw [nI_1, nI_1]
      refine ihq ([], k9 + 1) ?_
      simp only [tk_split, q9, if_true] at h9
      rw [h9, List.findIdx?_cons, decide_eq_false q8]
      simp only [Bool.false_eq_true, if_false]
      generalize (List.findIdx? (fun w9 => decide (lN (sp_w 32 w9) = y9)) (tk_split (pg_words.drop (j9 + 1)) [])) = o9
      cases o9 with
      | none => rfl
      | some i9 => simp only [Option.map_some, Option.some.injEq]; omega
    · intro _ q9 q8
      rw [hcl] at q9
      rw [lg_cmp_eq] at q8
      refine ⟨_, rfl, ?_, rfl⟩
      simp only [tk_split, q9, if_true] at h9
      unfold tk_kn
      rw [h9, List.findIdx?_cons, decide_eq_true q8]
      simp
    · intro _ q9
      rw [hcl] at q9 ⊢
      rw [nI_1, tk_lett j9 hj q9, show (32 : Int64) = lN 32 from rfl, tk_lN_mul, tk_lN_add]
      have e9 := ihq (((pg_wch j9).toNatClampNeg - 96) :: acc, k9) (by
        simp only [tk_split, q9, if_false] at h9
        exact h9)
      simp only [List.reverse_cons, tk_w_app] at e9
      exact e9
end PGR
