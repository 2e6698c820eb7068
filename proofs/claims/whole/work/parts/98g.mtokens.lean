/-! TOKENS: how the reference holds them; its signs and words -/
def rm_sc (t9 : Nat × List Nat) : Nat := if t9.1 = 0 then 0 else if t9.1 = 1 then 4 else if t9.1 = 2 then 1 else if t9.1 = 3 then 2 else 3
def rm_tk (M : pg_M) (tp : List Nat) (j9 : Nat) : Prop := M.1 209 j9 = nI (rm_sc (tk_tok tp j9)) ∧ M.1 210 j9 = nI (tk_place tp j9) ∧ ((tk_tok tp j9).1 = 2 → M.2.1 211 j9 = lN (sp_w 37 (tk_tok tp j9).2)) ∧ (3 ≤ (tk_tok tp j9).1 → M.2.1 211 j9 = lN ((tk_tok tp j9).2.getD 0 0))
/-- the table of words -/
def rm_W (M : pg_M) : Prop := ∀ w9, w9 < 26 → M.2.1 212 w9 = lN (sp_w 37 (tk_words.getD w9 []))
/-- where the reference stands in its tokens, of which the one at n9 is the end -/
def rm_R (M : pg_M) (tp : List Nat) (n9 : Nat) (z9 : tk_st) : Prop := n9 ≤ 1000 ∧ (tk_tok tp n9).1 = 0 ∧ (∀ j9, j9 ≤ n9 → rm_tk M tp j9) ∧ rm_W M ∧ match z9 with
  | .error f9 => M.1 207 8 = nI f9 ∧ 0 < f9 ∧ f9 < 2 ^ 20
  | .ok k9 => M.1 207 8 = 0 ∧ M.1 207 7 = nI k9 ∧ k9 ≤ n9
theorem tk_code37 {l1 l2 : List Nat} (g1 : tk_good l1) (g2 : tk_good l2) : lN (sp_w 37 l1) = lN (sp_w 37 l2) ↔ l1 = l2 := by
  constructor
  · intro e9
    have b1 := tk_w_lt (B9 := 37) (by decide) _ l1 rfl (fun x9 hx => by have := g1.2 x9 hx; omega)
    have b2 := tk_w_lt (B9 := 37) (by decide) _ l2 rfl (fun x9 hx => by have := g2.2 x9 hx; omega)
    have p1 : 37 ^ l1.length ≤ 37 ^ 8 := Nat.pow_le_pow_right (by decide) g1.1
    have p2 : 37 ^ l2.length ≤ 37 ^ 8 := Nat.pow_le_pow_right (by decide) g2.1
    have e8 : sp_w 37 l1 = sp_w 37 l2 := by
      have h1 := congrArg (fun z9 : Int64 => z9.toBitVec.toNat) e9
      have hb9 : ∀ n9, (lN n9).toBitVec = BitVec.ofNat 64 n9 := fun _ => rfl
      simp only [hb9, BitVec.toNat_ofNat] at h1
      rw [Nat.mod_eq_of_lt (by omega), Nat.mod_eq_of_lt (by omega)] at h1
      exact h1
    exact tk_w_inj _ l1 l2 rfl (fun x9 hx => by have := g1.2 x9 hx; omega) (fun x9 hx => by have := g2.2 x9 hx; omega) e8
  · intro e9; rw [e9]
theorem tk_nodup : ∀ i9, i9 < 26 → ∀ j9, j9 < i9 → ¬ tk_words.getD j9 [] = tk_words.getD i9 [] := fun i9 hi => co_dec (N := 26) (P := fun i9 => ∀ j9, j9 < i9 → ¬ tk_words.getD j9 [] = tk_words.getD i9 []) (by decide +kernel) hi
theorem tk_wd_iff {t9 : Nat × List Nat} {w9 : Nat} (h2 : t9.1 = 2) (hw : w9 < 26) : tk_wd t9 = some w9 ↔ tk_words.getD w9 [] = t9.2 := by
  unfold tk_wd
  rw [if_pos h2, List.findIdx?_eq_some_iff_getElem]
  have gl : ∀ (i9 : Nat) (hi : i9 < tk_words.length), tk_words.getD i9 [] = tk_words[i9] := fun i9 hi => by
    rw [List.getD_eq_getElem?_getD, List.getElem?_eq_getElem hi]; rfl
  constructor
  · rintro ⟨h9, y1, _⟩
    rw [gl w9 h9]
    exact of_decide_eq_true y1
  · intro y9
    have hl : w9 < tk_words.length := by rw [tk_wlen]; exact hw
    refine ⟨hl, ?_, fun j9 hj => ?_⟩
    · rw [← gl w9 hl]; exact decide_eq_true y9
    · rw [← gl j9 (Nat.lt_trans hj hl)]
      intro c9
      exact tk_nodup w9 hw j9 hj ((of_decide_eq_true c9).trans y9.symm)
theorem tk_kind {tp : List Nat} {k9 : Nat} (hk : tk_ok tp) : (tk_tok tp k9).1 ≤ 4 := by
  obtain ⟨n9, h1, h2, h3, h4⟩ := tk_sc_lt (k9 := k9) hk
  by_cases z9 : (tk_tok tp k9).1 = 4
  · omega
  · have := h4 z9; omega
theorem rm_sc_1 {t9 : Nat × List Nat} (h9 : t9.1 ≤ 4) : rm_sc t9 = 1 ↔ t9.1 = 2 := by unfold rm_sc; split <;> (try split) <;> (try split) <;> (try split) <;> omega
theorem rm_sc_2 {t9 : Nat × List Nat} (h9 : t9.1 ≤ 4) : rm_sc t9 = 2 ↔ t9.1 = 3 := by unfold rm_sc; split <;> (try split) <;> (try split) <;> (try split) <;> omega
theorem rm_sc_3 {t9 : Nat × List Nat} (h9 : t9.1 ≤ 4) : rm_sc t9 = 3 ↔ t9.1 = 4 := by unfold rm_sc; split <;> (try split) <;> (try split) <;> (try split) <;> omega
theorem rm_sc_0 {t9 : Nat × List Nat} (h9 : t9.1 ≤ 4) : rm_sc t9 = 0 ↔ t9.1 = 0 := by unfold rm_sc; split <;> (try split) <;> (try split) <;> (try split) <;> omega
theorem rm_sc_le {t9 : Nat × List Nat} : rm_sc t9 ≤ 4 := by unfold rm_sc; split <;> (try split) <;> (try split) <;> (try split) <;> omega
/-- the reading stands at this sign, or at this word -/
def tk_isS (tp : List Nat) (c9 : Nat) (z9 : tk_st) : Bool := match z9 with
  | .error _ => false
  | .ok k9 => decide (tk_tok tp k9 = (4, [c9]))
def tk_isW (tp : List Nat) (w9 : Nat) (z9 : tk_st) : Bool := match z9 with
  | .error _ => false
  | .ok k9 => decide (tk_wd (tk_tok tp k9) = some w9)
section PGR
variable {S : pg_S} {Λ : pg_L} {d n9 m9 : Nat} {M : pg_M} {tp : List Nat} {z9 : tk_st}
theorem rm_isSign {c9 : Nat} (hc : c9 < 128) (hX : pg_isX11 Λ) (hk : tk_ok tp) (hR : rm_R M tp n9 z9) : pg_Ev S Λ YX11_isSign d [.ref 207, .int (nI c9)] M (fun r M' => ∃ v, r = some (.int v) ∧ (v = b2i (tk_isS tp c9 z9) ∧ M' = M)) := by
  obtain ⟨h1, h2, h3, h4, h5⟩ := hR
  cases z9 with
  | error f9 =>
    obtain ⟨g1, g2, g3⟩ := h5
    have nf : ¬ M.1 207 8 = 0 := by rw [g1]; exact nI_ne0 g2 (by omega)
    exact oX11_isSign (sX11_isSign_0 hX (fun _ => ⟨_, rfl, rfl, rfl⟩) (fun c => absurd c nf) (fun c => absurd c nf) (fun c => absurd c nf) (fun c => absurd c nf))
  | ok k9 =>
    obtain ⟨g1, g2, g3⟩ := h5
    obtain ⟨t1, t2, t3, t4⟩ := h3 k9 g3
    have hkd := tk_kind (k9 := k9) hk
    have hcl : (nI k9).toNatClampNeg = k9 := nI_clamp (by omega)
    obtain ⟨m9, y1, y2, y3, y4⟩ := tk_sc_lt (k9 := k9) hk
    have e3 : M.1 209 (M.1 207 7).toNatClampNeg = 3 ↔ (tk_tok tp k9).1 = 4 := by
      rw [g2, hcl, t1, show (3 : Int32) = nI 3 from rfl, nI_eq (by have := rm_sc_le (t9 := tk_tok tp k9); omega) (by omega), rm_sc_3 hkd]
    have ev : (tk_tok tp k9).1 = 4 → (lg_cmp (M.2.1 211 (M.1 207 7).toNatClampNeg) (nI c9).toInt64 = 0 ↔ tk_tok tp k9 = (4, [c9])) := fun q9 => by
      rw [lg_cmp_eq, g2, hcl, t4 (by omega), nI_l (by omega), (y3 q9).1]
      show lN m9 = lN c9 ↔ _
      rw [lN_eq (by omega) (by omega)]
      constructor
      · intro z9; rw [z9]
      · intro z9; simpa using z9
    refine oX11_isSign (sX11_isSign_0 hX (fun c => absurd g1 c) (fun _ => by rw [g2]; exact vp_in_nI (by omega) (by decide)) (fun _ q9 => ⟨_, rfl, ?_, rfl⟩) (fun _ q9 q8 => ⟨_, rfl, ?_, rfl⟩) (fun _ q9 q8 => ⟨_, rfl, ?_, rfl⟩))
    · rw [e3] at q9
      show _ = b2i (decide (tk_tok tp k9 = (4, [c9])))
      rw [decide_eq_false (fun z9 => q9 (by rw [z9]))]; rfl
    · rw [e3] at q9
      rw [ev q9] at q8
      show _ = b2i (decide (tk_tok tp k9 = (4, [c9])))
      rw [decide_eq_false q8]; rfl
    · rw [e3] at q9
      rw [ev q9] at q8
      show _ = b2i (decide (tk_tok tp k9 = (4, [c9])))
      rw [decide_eq_true q8]; rfl
theorem rm_isWord {w9 : Nat} (hw : w9 < 26) (hX : pg_isX11 Λ) (hk : tk_ok tp) (hR : rm_R M tp n9 z9) : pg_Ev S Λ YX11_isWord d [.ref 207, .int (nI w9)] M (fun r M' => ∃ v, r = some (.int v) ∧ (v = b2i (tk_isW tp w9 z9) ∧ M' = M)) := by
  obtain ⟨h1, h2, h3, h4, h5⟩ := hR
  cases z9 with
  | error f9 =>
    obtain ⟨g1, g2, g3⟩ := h5
    have nf : ¬ M.1 207 8 = 0 := by rw [g1]; exact nI_ne0 g2 (by omega)
    exact oX11_isWord (sX11_isWord_0 hX (fun _ => ⟨_, rfl, rfl, rfl⟩) (fun c => absurd c nf) (fun c => absurd c nf) (fun c => absurd c nf) (fun c => absurd c nf) (fun c => absurd c nf))
  | ok k9 =>
    obtain ⟨g1, g2, g3⟩ := h5
    obtain ⟨t1, t2, t3, t4⟩ := h3 k9 g3
    have hkd := tk_kind (k9 := k9) hk
    have hcl : (nI k9).toNatClampNeg = k9 := nI_clamp (by omega)
    have hwl : (nI w9).toNatClampNeg = w9 := nI_clamp (by omega)
    have e1 : M.1 209 (M.1 207 7).toNatClampNeg = 1 ↔ (tk_tok tp k9).1 = 2 := by
      rw [g2, hcl, t1, show (1 : Int32) = nI 1 from rfl, nI_eq (by have := rm_sc_le (t9 := tk_tok tp k9); omega) (by omega), rm_sc_1 hkd]
    have hgw : tk_good (tk_words.getD w9 []) := by
      have hl : w9 < tk_words.length := by rw [tk_wlen]; exact hw
      rw [List.getD_eq_getElem?_getD, List.getElem?_eq_getElem hl]
      exact tk_words_good _ (List.getElem_mem hl)
    have ev : (tk_tok tp k9).1 = 2 → (lg_cmp (M.2.1 211 (M.1 207 7).toNatClampNeg) (M.2.1 212 (nI w9).toNatClampNeg) = 0 ↔ tk_wd (tk_tok tp k9) = some w9) := fun q9 => by
      have hgt : tk_good (tk_tok tp k9).2 := tk_t_good q9
      rw [lg_cmp_eq, g2, hcl, t3 q9, hwl, h4 w9 hw, tk_code37 hgt hgw, tk_wd_iff q9 hw]
      exact eq_comm
    refine oX11_isWord (sX11_isWord_0 hX (fun c => absurd g1 c) (fun _ => by rw [g2]; exact vp_in_nI (by omega) (by decide)) (fun _ q9 => ⟨_, rfl, ?_, rfl⟩) (fun _ _ => vp_in_nI hw (by decide)) (fun _ q9 q8 => ⟨_, rfl, ?_, rfl⟩) (fun _ q9 q8 => ⟨_, rfl, ?_, rfl⟩))
    · rw [e1] at q9
      show _ = b2i (decide (tk_wd (tk_tok tp k9) = some w9))
      rw [decide_eq_false (fun z9 => q9 (tk_wd_2 z9))]; rfl
    · rw [e1] at q9
      rw [ev q9] at q8
      show _ = b2i (decide (tk_wd (tk_tok tp k9) = some w9))
      rw [decide_eq_false q8]; rfl
    · rw [e1] at q9
      rw [ev q9] at q8
      show _ = b2i (decide (tk_wd (tk_tok tp k9) = some w9))
      rw [decide_eq_true q8]; rfl
end PGR
